set_option maxRecDepth 100000 in
set_option maxHeartbeats 4000000 in
theorem p_X10_show_J67 {X : Cx} {p : Program} {l : Launch} {e : Env} {s : State} {m : MethodId} {args : Array Value} {below : List Frame} {meth : Method} {c : Code} (S : SB X 1 p s m args meth c cX10_show 4 (some .boolean) RX10) {M : Mm} {N : Mm} {r : Bool} {v2 : Int32} {v3 : Int32} {t0 : Int32} {t1 : Int32}  (he : f_X10_show_J67 M v2 v3 t0 t1 = some (r, N)) : Z X 1 p l e rm_X10_show s m args below meth c 0 0 (MQ below (QI X 1 (bI r) N s.heap.size) args s 0 0 (AA X 1 s.heap.size)) 4 M 67 [(2, .int v2), (3, .int v3)] [.int t0, .int t1, .ref (X.2.2 201)] := by
  unfold f_X10_show_J67 at he
  refine z_iastb S ok_201 rfl he dX10_show_67 (fun M5 he => ?_)
  refine z_iload_n S dX10_show_68 rfl 1 rfl ?_
  refine z_iload_n S dX10_show_69 rfl 0 rfl ?_
  refine z_icmp_eq (tgt := 77) S he dX10_show_70 (by decide) (fun he => ?_) (fun he => ?_)
  · refine z_iconst (v := 0) S dX10_show_77 (by decide) ?_
    exact z_zret0 S (Prod.mk.inj (Option.some.inj he)) dX10_show_78
  · refine z_iconst (v := 1) S dX10_show_73 (by decide) ?_
    refine z_goto (tgt := 78) S dX10_show_74 (by decide) ?_
    exact z_zret1 S (Prod.mk.inj (Option.some.inj he)) dX10_show_78
set_option maxRecDepth 100000 in
set_option maxHeartbeats 4000000 in
theorem p_X10_show_J45 {X : Cx} {p : Program} {l : Launch} {e : Env} {s : State} {m : MethodId} {args : Array Value} {below : List Frame} {meth : Method} {c : Code} (S : SB X 1 p s m args meth c cX10_show 4 (some .boolean) RX10) {M : Mm} {N : Mm} {r : Bool} {v1 : Int32} {v2 : Int32} {t0 : Int32}  (he : f_X10_show_J45 M v1 v2 t0 = some (r, N)) : Z X 1 p l e rm_X10_show s m args below meth c 0 0 (MQ below (QI X 1 (bI r) N s.heap.size) args s 0 0 (AA X 1 s.heap.size)) 4 M 45 [(0, .ref (X.2.2 200)), (1, .int v1), (2, .int v2)] [.int t0] := by
  unfold f_X10_show_J45 at he
  refine z_istore_n (lv' := [(0, .ref (X.2.2 200)), (1, .int v1), (2, .int v2), (3, .int t0)]) S [1, 2, 3, 0] dX10_show_45 rfl (by decide) rfl ?_
  refine z_aload_n S dX10_show_46 rfl 0 rfl ?_
  refine z_getF (j := 201) S fo_RX10_7 1 rfl rfl ok_200 dX10_show_47 ?_
  refine z_bipush (v := 12) S dX10_show_50 (by decide) ?_
  refine z_iconst (v := 5) S dX10_show_52 (by decide) ?_
  refine z_iload_n S dX10_show_53 rfl 1 rfl ?_
  refine z_imul S dX10_show_54 ?_
  refine z_iadd S dX10_show_55 ?_
  refine z_iconst (v := 3) S dX10_show_56 (by decide) ?_
  refine z_iadd S dX10_show_57 ?_
  refine z_iload_n S dX10_show_58 rfl 2 rfl ?_
  refine z_if_eq (tgt := 66) S he dX10_show_59 (by decide) (fun he => ?_) (fun he => ?_)
  · refine z_iconst (v := 0) S dX10_show_66 (by decide) ?_
    refine z_lv (ks := [2, 3]) rfl ?_
    exact p_X10_show_J67 S  he
  · refine z_iconst (v := 1) S dX10_show_62 (by decide) ?_
    refine z_goto (tgt := 67) S dX10_show_63 (by decide) ?_
    refine z_lv (ks := [2, 3]) rfl ?_
    exact p_X10_show_J67 S  he
set_option maxRecDepth 100000 in
set_option maxHeartbeats 4000000 in
theorem p_X10_show_J14 {X : Cx} {p : Program} {l : Launch} {e : Env} {s : State} {m : MethodId} {args : Array Value} {below : List Frame} {meth : Method} {c : Code} (S : SB X 1 p s m args meth c cX10_show 4 (some .boolean) RX10) {M : Mm} {N : Mm} {r : Bool} {v1 : Int32} {v2 : Int32} {t0 : Int32}  (he : f_X10_show_J14 M v1 v2 t0 = some (r, N)) : Z X 1 p l e rm_X10_show s m args below meth c 0 0 (MQ below (QI X 1 (bI r) N s.heap.size) args s 0 0 (AA X 1 s.heap.size)) 4 M 14 [(0, .ref (X.2.2 200)), (1, .int v1), (2, .int v2)] [.int t0, .ref (X.2.2 200)] := by
  unfold f_X10_show_J14 at he
  refine z_putIb S fo_RX10_63p rfl ok_200 rfl rfl he dX10_show_14 (fun M2 he => ?_)
  refine z_aload_n S dX10_show_17 rfl 0 rfl ?_
  refine z_getI S fo_RX10_63 rfl ok_200 dX10_show_18 ?_
  refine z_if_le (tgt := 26) S he dX10_show_21 (by decide) (fun he => ?_) (fun he => ?_)
  · refine z_aload_n S dX10_show_26 rfl 0 rfl ?_
    obtain ⟨M3, h9, he⟩ := bnd he
    refine z_cVV (As := []) S cv_RX10_306 (K_X10_remembers  h9) ok_200 (by decide) (q := (RX10, TX10, 28)) rfl rfl ⟨rfl, rfl⟩ ⟨Nat.le_of_ble_eq_true rfl, Nat.le_of_ble_eq_true rfl⟩ ⟨Nat.le_refl _, Nat.le_refl _⟩ rfl rfl (Nat.le_of_ble_eq_true rfl) dX10_show_27 ?_
    refine z_aload_n S dX10_show_30 rfl 0 rfl ?_
    refine z_iload_n S dX10_show_31 rfl 1 rfl ?_
    refine z_iconst (v := 3) S dX10_show_32 (by decide) ?_
    obtain ⟨r4, h9, he⟩ := bnd he
    refine z_cVI (As := [.int v1, .int 3]) S cv_RX10_70 (K_X10_of  h9) ok_200 (by decide) (q := (RX10, TX10, 28)) rfl rfl ⟨rfl, rfl⟩ ⟨Nat.le_of_ble_eq_true rfl, Nat.le_of_ble_eq_true rfl⟩ ⟨Nat.le_refl _, Nat.le_refl _⟩ rfl rfl (Nat.le_of_ble_eq_true rfl) dX10_show_33 ?_
    refine z_iconst (v := 1) S dX10_show_36 (by decide) ?_
    refine z_icmp_ne (tgt := 44) S he dX10_show_37 (by decide) (fun he => ?_) (fun he => ?_)
    · refine z_iconst (v := 0) S dX10_show_44 (by decide) ?_
      exact p_X10_show_J45 S  he
    · refine z_iconst (v := 1) S dX10_show_40 (by decide) ?_
      refine z_goto (tgt := 45) S dX10_show_41 (by decide) ?_
      exact p_X10_show_J45 S  he
  · refine z_iconst (v := 0) S dX10_show_24 (by decide) ?_
    exact z_zret0 S (Prod.mk.inj (Option.some.inj he)) dX10_show_25
set_option maxRecDepth 100000 in
set_option maxHeartbeats 4000000 in
theorem K_X10_show {X : Cx} {l : Launch} {M : Mm} {a1 : Int32} {a2 : Int32} {r : Bool} {N : Mm}  (he : f_X10_show M a1 a2 = some (r, N)) : KI X 1 l yX10_show (wz yX10_show cX10_show 4 (some .boolean)) rm_X10_show [.ref (X.2.2 200), .int a1, .int a2] M (bI r) N := by
  intro sz
  refine K_of (Qc := (fun sz => QI X 1 (bI r) N sz)) (own := RX10) (lv0 := [(0, .ref (X.2.2 200)), (1, .int a1), (2, .int a2)]) (by decide +kernel) rfl (Nat.le_of_ble_eq_true rfl) rfl (fun p e s m args below meth c S => ?_) sz
  · unfold f_X10_show at he
    refine z_aload_n S dX10_show_0 rfl 0 rfl ?_
    refine z_aload_n S dX10_show_1 rfl 0 rfl ?_
    refine z_iload_n S dX10_show_2 rfl 1 rfl ?_
    obtain ⟨r1, h9, he⟩ := bnd he
    refine z_cVI (As := [.int a1]) S cv_RX10_285 (K_X10_isThing  h9) ok_200 (by decide) (q := (RX10, TX10, 28)) rfl rfl ⟨rfl, rfl⟩ ⟨Nat.le_of_ble_eq_true rfl, Nat.le_of_ble_eq_true rfl⟩ ⟨Nat.le_refl _, Nat.le_refl _⟩ rfl rfl (Nat.le_of_ble_eq_true rfl) dX10_show_3 ?_
    refine z_ifb_ne (tgt := 13) S he dX10_show_6 (by decide) (fun he => ?_) (fun he => ?_)
    · refine z_iconst (v := 0) S dX10_show_13 (by decide) ?_
      exact p_X10_show_J14 S  he
    · refine z_iconst (v := 1) S dX10_show_9 (by decide) ?_
      refine z_goto (tgt := 14) S dX10_show_10 (by decide) ?_
      exact p_X10_show_J14 S  he
set_option maxRecDepth 100000 in
set_option maxHeartbeats 4000000 in
theorem p_X10_clean_J28 {X : Cx} {p : Program} {l : Launch} {e : Env} {s : State} {m : MethodId} {args : Array Value} {below : List Frame} {meth : Method} {c : Code} (S : SB X 1 p s m args meth c cX10_clean 4 (some .int) RX10) {M : Mm} {N : Mm} {r : Int32} {v1 : Int32} {v2 : Int32} {t0 : Int32}  (he : f_X10_clean_J28 M v1 v2 t0 = some (r, N)) : Z X 1 p l e rm_X10_clean s m args below meth c 0 0 (MQ below (QI X 1 r N s.heap.size) args s 0 0 (AA X 1 s.heap.size)) 4 M 28 [(0, .ref (X.2.2 200)), (1, .int v1), (2, .int v2)] [.int t0, .ref (X.2.2 200)] := by
  unfold f_X10_clean_J28 at he
  refine z_putIb S fo_RX10_63p rfl ok_200 rfl rfl he dX10_clean_28 (fun M2 he => ?_)
  refine z_aload_n S dX10_clean_31 rfl 0 rfl ?_
  refine z_getI S fo_RX10_63 rfl ok_200 dX10_clean_32 ?_
  refine z_if_le (tgt := 40) S he dX10_clean_35 (by decide) (fun he => ?_) (fun he => ?_)
  · refine z_aload_n S dX10_clean_40 rfl 0 rfl ?_
    obtain ⟨M3, h9, he⟩ := bnd he
    refine z_cVV (As := []) S cv_RX10_306 (K_X10_remembers  h9) ok_200 (by decide) (q := (RX10, TX10, 28)) rfl rfl ⟨rfl, rfl⟩ ⟨Nat.le_of_ble_eq_true rfl, Nat.le_of_ble_eq_true rfl⟩ ⟨Nat.le_refl _, Nat.le_refl _⟩ rfl rfl (Nat.le_of_ble_eq_true rfl) dX10_clean_41 ?_
    refine z_aload_n S dX10_clean_44 rfl 0 rfl ?_
    refine z_iload_n S dX10_clean_45 rfl 1 rfl ?_
    refine z_iconst (v := 1) S dX10_clean_46 (by decide) ?_
    obtain ⟨r4, h9, he⟩ := bnd he
    refine z_cVI (As := [.int v1, .int 1]) S cv_RX10_246 (K_X10_ofOne  h9) ok_200 (by decide) (q := (RX10, TX10, 28)) rfl rfl ⟨rfl, rfl⟩ ⟨Nat.le_of_ble_eq_true rfl, Nat.le_of_ble_eq_true rfl⟩ ⟨Nat.le_refl _, Nat.le_refl _⟩ rfl rfl (Nat.le_of_ble_eq_true rfl) dX10_clean_47 ?_
    refine z_istore_n (lv' := [(0, .ref (X.2.2 200)), (1, .int v1), (2, .int v2), (3, .int r4)]) S [1, 2, 3, 0] dX10_clean_50 rfl (by decide) rfl ?_
    refine z_aload_n S dX10_clean_51 rfl 0 rfl ?_
    refine z_getF (j := 201) S fo_RX10_7 1 rfl rfl ok_200 dX10_clean_52 ?_
    refine z_bipush (v := 57) S dX10_clean_55 (by decide) ?_
    refine z_iconst (v := 5) S dX10_clean_57 (by decide) ?_
    refine z_iload_n S dX10_clean_58 rfl 1 rfl ?_
    refine z_imul S dX10_clean_59 ?_
    refine z_iadd S dX10_clean_60 ?_
    refine z_iconst (v := 1) S dX10_clean_61 (by decide) ?_
    refine z_iadd S dX10_clean_62 ?_
    refine z_iload_n S dX10_clean_63 rfl 2 rfl ?_
    refine z_iastb S ok_201 rfl he dX10_clean_64 (fun M5 he => ?_)
    refine z_iload_n S dX10_clean_65 rfl 3 rfl ?_
    exact z_iret S (Prod.mk.inj (Option.some.inj he)) dX10_clean_66
  · refine z_iconst (v := 0) S dX10_clean_38 (by decide) ?_
    exact z_iret S (Prod.mk.inj (Option.some.inj he)) dX10_clean_39
set_option maxRecDepth 100000 in
set_option maxHeartbeats 4000000 in
theorem K_X10_clean {X : Cx} {l : Launch} {M : Mm} {a1 : Int32} {a2 : Int32} {r : Int32} {N : Mm}  (he : f_X10_clean M a1 a2 = some (r, N)) : KI X 1 l yX10_clean (wz yX10_clean cX10_clean 4 (some .int)) rm_X10_clean [.ref (X.2.2 200), .int a1, .int a2] M r N := by
  intro sz
  refine K_of (Qc := (fun sz => QI X 1 r N sz)) (own := RX10) (lv0 := [(0, .ref (X.2.2 200)), (1, .int a1), (2, .int a2)]) (by decide +kernel) rfl (Nat.le_of_ble_eq_true rfl) rfl (fun p e s m args below meth c S => ?_) sz
  · unfold f_X10_clean at he
    refine z_aload_n S dX10_clean_0 rfl 0 rfl ?_
    refine z_aload_n S dX10_clean_1 rfl 0 rfl ?_
    refine z_iload_n S dX10_clean_2 rfl 1 rfl ?_
    obtain ⟨r1, h9, he⟩ := bnd he
    refine z_cVI (As := [.int a1]) S cv_RX10_300 (K_X10_isVisitor  h9) ok_200 (by decide) (q := (RX10, TX10, 28)) rfl rfl ⟨rfl, rfl⟩ ⟨Nat.le_of_ble_eq_true rfl, Nat.le_of_ble_eq_true rfl⟩ ⟨Nat.le_refl _, Nat.le_refl _⟩ rfl rfl (Nat.le_of_ble_eq_true rfl) dX10_clean_3 ?_
    refine z_ifb_ne (tgt := 13) S he dX10_clean_6 (by decide) (fun he => ?_) (fun he => ?_)
    · refine z_iload_n S dX10_clean_13 rfl 2 rfl ?_
      refine z_iconst (v := 0) S dX10_clean_14 (by decide) ?_
      refine z_bipush (v := 9) S dX10_clean_15 (by decide) ?_
      refine z_cSI (As := [.int a2, .int 0, .int 9]) S cs_RX10_66 (K_X10_isIn  rfl) ⟨rfl, rfl⟩ ⟨Nat.le_of_ble_eq_true rfl, Nat.le_of_ble_eq_true rfl⟩ ⟨Nat.le_refl _, Nat.le_refl _⟩ rfl rfl (Nat.le_of_ble_eq_true rfl) dX10_clean_17 ?_
      refine z_ifb_ne (tgt := 27) S he dX10_clean_20 (by decide) (fun he => ?_) (fun he => ?_)
      · refine z_iconst (v := 0) S dX10_clean_27 (by decide) ?_
        exact p_X10_clean_J28 S  he
      · refine z_iconst (v := 2) S dX10_clean_23 (by decide) ?_
        refine z_goto (tgt := 28) S dX10_clean_24 (by decide) ?_
        exact p_X10_clean_J28 S  he
    · refine z_iconst (v := 1) S dX10_clean_9 (by decide) ?_
      refine z_goto (tgt := 28) S dX10_clean_10 (by decide) ?_
      exact p_X10_clean_J28 S  he
set_option maxRecDepth 100000 in
set_option maxHeartbeats 4000000 in
theorem p_X10_mark_J80 {X : Cx} {p : Program} {l : Launch} {e : Env} {s : State} {m : MethodId} {args : Array Value} {below : List Frame} {meth : Method} {c : Code} (S : SB X 1 p s m args meth c cX10_mark 5 (some .boolean) RX10) {M : Mm} {N : Mm} {r : Bool} {v1 : Int32} {v4 : Int32} {t0 : Int32} {t1 : Int32}  (he : f_X10_mark_J80 M v1 v4 t0 t1 = some (r, N)) : Z X 1 p l e rm_X10_mark s m args below meth c 0 0 (MQ below (QI X 1 (bI r) N s.heap.size) args s 0 0 (AA X 1 s.heap.size)) 5 M 80 [(0, .ref (X.2.2 200)), (1, .int v1), (4, .int v4)] [.int t0, .int t1, .ref (X.2.2 201)] := by
  unfold f_X10_mark_J80 at he
  refine z_iastb S ok_201 rfl he dX10_mark_80 (fun M5 he => ?_)
  refine z_iload S dX10_mark_81 2 rfl ?_
  refine z_aload_n S dX10_mark_83 rfl 0 rfl ?_
  refine z_iload_n S dX10_mark_84 rfl 1 rfl ?_
  refine z_iconst (v := 4) S dX10_mark_85 (by decide) ?_
  obtain ⟨r6, h9, he⟩ := bnd he
  refine z_cVI (As := [.int v1, .int 4]) S cv_RX10_246 (K_X10_ofOne  h9) ok_200 (by decide) (q := (RX10, TX10, 28)) rfl rfl ⟨rfl, rfl⟩ ⟨Nat.le_of_ble_eq_true rfl, Nat.le_of_ble_eq_true rfl⟩ ⟨Nat.le_refl _, Nat.le_refl _⟩ rfl rfl (Nat.le_of_ble_eq_true rfl) dX10_mark_86 ?_
  refine z_icmp_eq (tgt := 96) S he dX10_mark_89 (by decide) (fun he => ?_) (fun he => ?_)
  · refine z_iconst (v := 0) S dX10_mark_96 (by decide) ?_
    exact z_zret0 S (Prod.mk.inj (Option.some.inj he)) dX10_mark_97
  · refine z_iconst (v := 1) S dX10_mark_92 (by decide) ?_
    refine z_goto (tgt := 97) S dX10_mark_93 (by decide) ?_
    exact z_zret1 S (Prod.mk.inj (Option.some.inj he)) dX10_mark_97
set_option maxRecDepth 100000 in
set_option maxHeartbeats 4000000 in
theorem p_X10_mark_J23 {X : Cx} {p : Program} {l : Launch} {e : Env} {s : State} {m : MethodId} {args : Array Value} {below : List Frame} {meth : Method} {c : Code} (S : SB X 1 p s m args meth c cX10_mark 5 (some .boolean) RX10) {M : Mm} {N : Mm} {r : Bool} {v1 : Int32} {v2 : Int32} {v3 : Int32} {t0 : Int32}  (he : f_X10_mark_J23 M v1 v2 v3 t0 = some (r, N)) : Z X 1 p l e rm_X10_mark s m args below meth c 0 0 (MQ below (QI X 1 (bI r) N s.heap.size) args s 0 0 (AA X 1 s.heap.size)) 5 M 23 [(0, .ref (X.2.2 200)), (1, .int v1), (2, .int v2), (3, .int v3)] [.int t0, .ref (X.2.2 200)] := by
  unfold f_X10_mark_J23 at he
  refine z_putIb S fo_RX10_63p rfl ok_200 rfl rfl he dX10_mark_23 (fun M2 he => ?_)
  refine z_aload_n S dX10_mark_26 rfl 0 rfl ?_
  refine z_getI S fo_RX10_63 rfl ok_200 dX10_mark_27 ?_
  refine z_if_le (tgt := 35) S he dX10_mark_30 (by decide) (fun he => ?_) (fun he => ?_)
  · refine z_aload_n S dX10_mark_35 rfl 0 rfl ?_
    obtain ⟨M3, h9, he⟩ := bnd he
    refine z_cVV (As := []) S cv_RX10_306 (K_X10_remembers  h9) ok_200 (by decide) (q := (RX10, TX10, 28)) rfl rfl ⟨rfl, rfl⟩ ⟨Nat.le_of_ble_eq_true rfl, Nat.le_of_ble_eq_true rfl⟩ ⟨Nat.le_refl _, Nat.le_refl _⟩ rfl rfl (Nat.le_of_ble_eq_true rfl) dX10_mark_36 ?_
    refine z_aload_n S dX10_mark_39 rfl 0 rfl ?_
    refine z_iload_n S dX10_mark_40 rfl 1 rfl ?_
    refine z_iconst (v := 4) S dX10_mark_41 (by decide) ?_
    obtain ⟨r4, h9, he⟩ := bnd he
    refine z_cVI (As := [.int v1, .int 4]) S cv_RX10_246 (K_X10_ofOne  h9) ok_200 (by decide) (q := (RX10, TX10, 28)) rfl rfl ⟨rfl, rfl⟩ ⟨Nat.le_of_ble_eq_true rfl, Nat.le_of_ble_eq_true rfl⟩ ⟨Nat.le_refl _, Nat.le_refl _⟩ rfl rfl (Nat.le_of_ble_eq_true rfl) dX10_mark_42 ?_
    refine z_istore (lv' := [(0, .ref (X.2.2 200)), (1, .int v1), (2, .int v2), (3, .int v3), (4, .int r4)]) S [1, 2, 3, 4, 0] dX10_mark_45 (by decide) rfl ?_
    refine z_aload_n S dX10_mark_47 rfl 0 rfl ?_
    refine z_getF (j := 201) S fo_RX10_7 1 rfl rfl ok_200 dX10_mark_48 ?_
    refine z_bipush (v := 57) S dX10_mark_51 (by decide) ?_
    refine z_iconst (v := 5) S dX10_mark_53 (by decide) ?_
    refine z_iload_n S dX10_mark_54 rfl 1 rfl ?_
    refine z_imul S dX10_mark_55 ?_
    refine z_iadd S dX10_mark_56 ?_
    refine z_iconst (v := 4) S dX10_mark_57 (by decide) ?_
    refine z_iadd S dX10_mark_58 ?_
    refine z_iload_n S dX10_mark_59 rfl 3 rfl ?_
    refine z_if_eq (tgt := 72) S he dX10_mark_60 (by decide) (fun he => ?_) (fun he => ?_)
    · refine z_iload S dX10_mark_72 4 rfl ?_
      refine z_iconst (v := 1) S dX10_mark_74 (by decide) ?_
      refine z_iload_n S dX10_mark_75 rfl 2 rfl ?_
      refine z_ishl S dX10_mark_76 ?_
      refine z_iconst (v := (-1)) S dX10_mark_77 (by decide) ?_
      refine z_ixor S dX10_mark_78 ?_
      refine z_iand S dX10_mark_79 ?_
      refine z_lv (ks := [0, 1, 4]) rfl ?_
      exact p_X10_mark_J80 S  he
    · refine z_iload S dX10_mark_63 4 rfl ?_
      refine z_iconst (v := 1) S dX10_mark_65 (by decide) ?_
      refine z_iload_n S dX10_mark_66 rfl 2 rfl ?_
      refine z_ishl S dX10_mark_67 ?_
      refine z_ior S dX10_mark_68 ?_
      refine z_goto (tgt := 80) S dX10_mark_69 (by decide) ?_
      refine z_lv (ks := [0, 1, 4]) rfl ?_
      exact p_X10_mark_J80 S  he
  · refine z_iconst (v := 0) S dX10_mark_33 (by decide) ?_
    exact z_zret0 S (Prod.mk.inj (Option.some.inj he)) dX10_mark_34
set_option maxRecDepth 100000 in
set_option maxHeartbeats 4000000 in
theorem p_X10_mark_J18 {X : Cx} {p : Program} {l : Launch} {e : Env} {s : State} {m : MethodId} {args : Array Value} {below : List Frame} {meth : Method} {c : Code} (S : SB X 1 p s m args meth c cX10_mark 5 (some .boolean) RX10) {M : Mm} {N : Mm} {r : Bool} {v1 : Int32} {v2 : Int32} {v3 : Int32}  (he : f_X10_mark_J18 M v1 v2 v3 = some (r, N)) : Z X 1 p l e rm_X10_mark s m args below meth c 0 0 (MQ below (QI X 1 (bI r) N s.heap.size) args s 0 0 (AA X 1 s.heap.size)) 5 M 18 [(0, .ref (X.2.2 200)), (1, .int v1), (2, .int v2), (3, .int v3)] [.ref (X.2.2 200)] := by
  unfold f_X10_mark_J18 at he
  refine z_iconst (v := 1) S dX10_mark_18 (by decide) ?_
  refine z_goto (tgt := 23) S dX10_mark_19 (by decide) ?_
  exact p_X10_mark_J23 S  he
set_option maxRecDepth 100000 in
set_option maxHeartbeats 4000000 in
theorem K_X10_mark {X : Cx} {l : Launch} {M : Mm} {a1 : Int32} {a2 : Int32} {a3 : Int32} {r : Bool} {N : Mm}  (he : f_X10_mark M a1 a2 a3 = some (r, N)) : KI X 1 l yX10_mark (wz yX10_mark cX10_mark 5 (some .boolean)) rm_X10_mark [.ref (X.2.2 200), .int a1, .int a2, .int a3] M (bI r) N := by
  intro sz
  refine K_of (Qc := (fun sz => QI X 1 (bI r) N sz)) (own := RX10) (lv0 := [(0, .ref (X.2.2 200)), (1, .int a1), (2, .int a2), (3, .int a3)]) (by decide +kernel) rfl (Nat.le_of_ble_eq_true rfl) rfl (fun p e s m args below meth c S => ?_) sz
  · unfold f_X10_mark at he
    refine z_aload_n S dX10_mark_0 rfl 0 rfl ?_
    refine z_aload_n S dX10_mark_1 rfl 0 rfl ?_
    refine z_iload_n S dX10_mark_2 rfl 1 rfl ?_
    obtain ⟨r1, h9, he⟩ := bnd he
    refine z_cVI (As := [.int a1]) S cv_RX10_300 (K_X10_isVisitor  h9) ok_200 (by decide) (q := (RX10, TX10, 28)) rfl rfl ⟨rfl, rfl⟩ ⟨Nat.le_of_ble_eq_true rfl, Nat.le_of_ble_eq_true rfl⟩ ⟨Nat.le_refl _, Nat.le_refl _⟩ rfl rfl (Nat.le_of_ble_eq_true rfl) dX10_mark_3 ?_
    refine z_ifb_eq (tgt := 18) S he dX10_mark_6 (by decide) (fun he => ?_) (fun he => ?_)
    · exact p_X10_mark_J18 S  he
    · refine z_iload_n S dX10_mark_9 rfl 2 rfl ?_
      refine z_iconst (v := 0) S dX10_mark_10 (by decide) ?_
      refine z_iconst (v := 5) S dX10_mark_11 (by decide) ?_
      refine z_cSI (As := [.int a2, .int 0, .int 5]) S cs_RX10_66 (K_X10_isIn  rfl) ⟨rfl, rfl⟩ ⟨Nat.le_of_ble_eq_true rfl, Nat.le_of_ble_eq_true rfl⟩ ⟨Nat.le_refl _, Nat.le_refl _⟩ rfl rfl (Nat.le_of_ble_eq_true rfl) dX10_mark_12 ?_
      refine z_ifb_ne (tgt := 22) S he dX10_mark_15 (by decide) (fun he => ?_) (fun he => ?_)
      · refine z_iconst (v := 0) S dX10_mark_22 (by decide) ?_
        exact p_X10_mark_J23 S  he
      · exact p_X10_mark_J18 S  he
set_option maxRecDepth 100000 in
set_option maxHeartbeats 4000000 in
theorem p_X4_swapVisitors_L2 {X : Cx} {p : Program} {l : Launch} {e : Env} {s : State} {m : MethodId} {args : Array Value} {below : List Frame} {meth : Method} {c : Code} (S : SB X 0 p s m args meth c cX4_swapVisitors 5 none RX4) {M : Mm} {N : Mm} {v0 : Nat} {v1 : Int32} {v2 : Int32} {v3 : Int32} {x : (Mm × Int32) ⊕ Mm} (h_v0 : OK 0 v0 4) (he : f_X4_swapVisitors_L2 M v0 v1 v2 v3 = some x) (hc : ∀ b, x = .inl b → Z X 0 p l e rm_X4_swapVisitors s m args below meth c 0 0 (MQ below (QV X 0 N s.heap.size) args s 0 0 (AA X 0 s.heap.size)) 5 b.1 2 [(0, .ref (X.2.2 v0)), (1, .int v1), (2, .int v2), (3, .int b.2)] []) (hx : ∀ b, x = .inr b → Z X 0 p l e rm_X4_swapVisitors s m args below meth c 0 0 (MQ below (QV X 0 N s.heap.size) args s 0 0 (AA X 0 s.heap.size)) 5 b 41 [] []) : Z X 0 p l e rm_X4_swapVisitors s m args below meth c 0 0 (MQ below (QV X 0 N s.heap.size) args s 0 0 (AA X 0 s.heap.size)) 5 M 2 [(0, .ref (X.2.2 v0)), (1, .int v1), (2, .int v2), (3, .int v3)] [] := by
  unfold f_X4_swapVisitors_L2 at he
  refine z_iload_n S dX4_swapVisitors_2 rfl 3 rfl ?_
  refine z_iconst (v := 5) S dX4_swapVisitors_3 (by decide) ?_
  refine z_icmp_ge (tgt := 41) S he dX4_swapVisitors_4 (by decide) (fun he => ?_) (fun he => ?_)
  · refine z_lv (ks := []) rfl ?_
    exact hx _ (Option.some.inj he).symm
  · refine z_aload_n S dX4_swapVisitors_7 rfl 0 rfl ?_
    refine z_iload_n S dX4_swapVisitors_8 rfl 1 rfl ?_
    refine z_iload_n S dX4_swapVisitors_9 rfl 3 rfl ?_
    obtain ⟨r1, h9, he⟩ := bnd he
    refine z_cVI (As := [.int v1, .int v3]) S cv_RX4_65 (K_X4_ofVisitor h_v0 h9) h_v0 (by decide) (q := (RX4, TX4, 10)) rfl rfl ⟨rfl, rfl⟩ ⟨Nat.le_of_ble_eq_true rfl, Nat.le_of_ble_eq_true rfl⟩ ⟨Nat.le_refl _, Nat.le_refl _⟩ rfl rfl (Nat.le_of_ble_eq_true rfl) dX4_swapVisitors_10 ?_
    refine z_istore (lv' := [(0, .ref (X.2.2 v0)), (1, .int v1), (2, .int v2), (3, .int v3), (4, .int r1)]) S [1, 2, 3, 4, 0] dX4_swapVisitors_13 (by decide) rfl ?_
    refine z_aload_n S dX4_swapVisitors_15 rfl 0 rfl ?_
    refine z_iload_n S dX4_swapVisitors_16 rfl 1 rfl ?_
    refine z_iload_n S dX4_swapVisitors_17 rfl 3 rfl ?_
    refine z_aload_n S dX4_swapVisitors_18 rfl 0 rfl ?_
    refine z_iload_n S dX4_swapVisitors_19 rfl 2 rfl ?_
    refine z_iload_n S dX4_swapVisitors_20 rfl 3 rfl ?_
    obtain ⟨r2, h9, he⟩ := bnd he
    refine z_cVI (As := [.int v2, .int v3]) S cv_RX4_65 (K_X4_ofVisitor h_v0 h9) h_v0 (by decide) (q := (RX4, TX4, 10)) rfl rfl ⟨rfl, rfl⟩ ⟨Nat.le_of_ble_eq_true rfl, Nat.le_of_ble_eq_true rfl⟩ ⟨Nat.le_refl _, Nat.le_refl _⟩ rfl rfl (Nat.le_of_ble_eq_true rfl) dX4_swapVisitors_21 ?_
    obtain ⟨M3, h9, he⟩ := bnd he
    refine z_cVV (As := [.int v1, .int v3, .int r2]) S cv_RX4_68 (K_X4_setVisitor h_v0 h9) h_v0 (by decide) (q := (RX4, TX4, 10)) rfl rfl ⟨rfl, rfl⟩ ⟨Nat.le_of_ble_eq_true rfl, Nat.le_of_ble_eq_true rfl⟩ ⟨Nat.le_refl _, Nat.le_refl _⟩ rfl rfl (Nat.le_of_ble_eq_true rfl) dX4_swapVisitors_24 ?_
    refine z_aload_n S dX4_swapVisitors_27 rfl 0 rfl ?_
    refine z_iload_n S dX4_swapVisitors_28 rfl 2 rfl ?_
    refine z_iload_n S dX4_swapVisitors_29 rfl 3 rfl ?_
    refine z_iload S dX4_swapVisitors_30 4 rfl ?_
    obtain ⟨M4, h9, he⟩ := bnd he
    refine z_cVV (As := [.int v2, .int v3, .int r1]) S cv_RX4_68 (K_X4_setVisitor h_v0 h9) h_v0 (by decide) (q := (RX4, TX4, 10)) rfl rfl ⟨rfl, rfl⟩ ⟨Nat.le_of_ble_eq_true rfl, Nat.le_of_ble_eq_true rfl⟩ ⟨Nat.le_refl _, Nat.le_refl _⟩ rfl rfl (Nat.le_of_ble_eq_true rfl) dX4_swapVisitors_32 ?_
    refine z_iinc (v := (v3 + 1)) (lv' := [(0, .ref (X.2.2 v0)), (1, .int v1), (2, .int v2), (3, .int (v3 + 1)), (4, .int r1)]) S [1, 2, 3, 0, 4] 3 dX4_swapVisitors_35 rfl (by rfl) (by decide) rfl ?_
    refine z_goto (tgt := 2) S dX4_swapVisitors_38 (by decide) ?_
    refine z_lv (ks := [0, 1, 2, 3]) rfl ?_
    exact hc _ (Option.some.inj he).symm
set_option maxRecDepth 100000 in
set_option maxHeartbeats 4000000 in
theorem K_X4_swapVisitors {X : Cx} {l : Launch} {M : Mm} {a0 : Nat} {a1 : Int32} {a2 : Int32} {N : Mm} (h_a0 : OK 0 a0 4) (he : f_X4_swapVisitors M a0 a1 a2 = some N) : KV X 0 l yX4_swapVisitors (wz yX4_swapVisitors cX4_swapVisitors 5 none) rm_X4_swapVisitors [.ref (X.2.2 a0), .int a1, .int a2] M N := by
  intro sz
  refine K_of (Qc := (fun sz => QV X 0 N sz)) (own := RX4) (lv0 := [(0, .ref (X.2.2 a0)), (1, .int a1), (2, .int a2)]) (by decide +kernel) rfl (Nat.le_of_ble_eq_true rfl) rfl (fun p e s m args below meth c S => ?_) sz
  · unfold f_X4_swapVisitors at he
    refine z_iconst (v := 0) S dX4_swapVisitors_0 (by decide) ?_
    refine z_istore_n (lv' := [(0, .ref (X.2.2 a0)), (1, .int a1), (2, .int a2), (3, .int 0)]) S [1, 2, 3, 0] dX4_swapVisitors_1 rfl (by decide) rfl ?_
    obtain ⟨e_5, hl, he⟩ := bnd he
    have hX : Z X 0 p l e rm_X4_swapVisitors s m args below meth c 0 0 (MQ below (QV X 0 N s.heap.size) args s 0 0 (AA X 0 s.heap.size)) 5 e_5 41 [] [] := by
      exact z_vret S (Option.some.inj he) dX4_swapVisitors_41
    exact loopZ (Zh := (fun a_5 => Z X 0 p l e rm_X4_swapVisitors s m args below meth c 0 0 (MQ below (QV X 0 N s.heap.size) args s 0 0 (AA X 0 s.heap.size)) 5 a_5.1 2 [(0, .ref (X.2.2 a0)), (1, .int a1), (2, .int a2), (3, .int a_5.2)] [])) (fun a_5 x hb hc hr => p_X4_swapVisitors_L2 S h_a0 hb hc (fun b hxe => by rw [hr b hxe]; exact hX)) FU _ hl
set_option maxRecDepth 100000 in
set_option maxHeartbeats 4000000 in
theorem p_X10_trade_L48 {X : Cx} {p : Program} {l : Launch} {e : Env} {s : State} {m : MethodId} {args : Array Value} {below : List Frame} {meth : Method} {c : Code} (S : SB X 1 p s m args meth c cX10_trade 5 none RX10) {M : Mm} {N : Mm} {v1 : Int32} {v2 : Int32} {v3 : Int32} {x : (Mm × Int32) ⊕ Mm}  (he : f_X10_trade_L48 M v1 v2 v3 = some x) (hc : ∀ b, x = .inl b → Z X 1 p l e rm_X10_trade s m args below meth c 0 0 (MQ below (QV X 1 N s.heap.size) args s 0 0 (AA X 1 s.heap.size)) 5 b.1 48 [(0, .ref (X.2.2 200)), (1, .int v1), (2, .int v2), (3, .int b.2)] []) (hx : ∀ b, x = .inr b → Z X 1 p l e rm_X10_trade s m args below meth c 0 0 (MQ below (QV X 1 N s.heap.size) args s 0 0 (AA X 1 s.heap.size)) 5 b 101 [] []) : Z X 1 p l e rm_X10_trade s m args below meth c 0 0 (MQ below (QV X 1 N s.heap.size) args s 0 0 (AA X 1 s.heap.size)) 5 M 48 [(0, .ref (X.2.2 200)), (1, .int v1), (2, .int v2), (3, .int v3)] [] := by
  unfold f_X10_trade_L48 at he
  refine z_iload_n S dX10_trade_48 rfl 3 rfl ?_
  refine z_iconst (v := 5) S dX10_trade_49 (by decide) ?_
  refine z_icmp_ge (tgt := 101) S he dX10_trade_50 (by decide) (fun he => ?_) (fun he => ?_)
  · refine z_lv (ks := []) rfl ?_
    exact hx _ (Option.some.inj he).symm
  · refine z_aload_n S dX10_trade_53 rfl 0 rfl ?_
    refine z_iload_n S dX10_trade_54 rfl 1 rfl ?_
    refine z_iload_n S dX10_trade_55 rfl 3 rfl ?_
    obtain ⟨r4, h9, he⟩ := bnd he
    refine z_cVI (As := [.int v1, .int v3]) S cv_RX10_246 (K_X10_ofOne  h9) ok_200 (by decide) (q := (RX10, TX10, 28)) rfl rfl ⟨rfl, rfl⟩ ⟨Nat.le_of_ble_eq_true rfl, Nat.le_of_ble_eq_true rfl⟩ ⟨Nat.le_refl _, Nat.le_refl _⟩ rfl rfl (Nat.le_of_ble_eq_true rfl) dX10_trade_56 ?_
    refine z_istore (lv' := [(0, .ref (X.2.2 200)), (1, .int v1), (2, .int v2), (3, .int v3), (4, .int r4)]) S [1, 2, 3, 4, 0] dX10_trade_59 (by decide) rfl ?_
    refine z_aload_n S dX10_trade_61 rfl 0 rfl ?_
    refine z_getF (j := 201) S fo_RX10_7 1 rfl rfl ok_200 dX10_trade_62 ?_
    refine z_bipush (v := 57) S dX10_trade_65 (by decide) ?_
    refine z_iconst (v := 5) S dX10_trade_67 (by decide) ?_
    refine z_iload_n S dX10_trade_68 rfl 1 rfl ?_
    refine z_imul S dX10_trade_69 ?_
    refine z_iadd S dX10_trade_70 ?_
    refine z_iload_n S dX10_trade_71 rfl 3 rfl ?_
    refine z_iadd S dX10_trade_72 ?_
    refine z_aload_n S dX10_trade_73 rfl 0 rfl ?_
    refine z_iload_n S dX10_trade_74 rfl 2 rfl ?_
    refine z_iload_n S dX10_trade_75 rfl 3 rfl ?_
    obtain ⟨r5, h9, he⟩ := bnd he
    refine z_cVI (As := [.int v2, .int v3]) S cv_RX10_246 (K_X10_ofOne  h9) ok_200 (by decide) (q := (RX10, TX10, 28)) rfl rfl ⟨rfl, rfl⟩ ⟨Nat.le_of_ble_eq_true rfl, Nat.le_of_ble_eq_true rfl⟩ ⟨Nat.le_refl _, Nat.le_refl _⟩ rfl rfl (Nat.le_of_ble_eq_true rfl) dX10_trade_76 ?_
    refine z_iastb S ok_201 rfl he dX10_trade_79 (fun M6 he => ?_)
    refine z_aload_n S dX10_trade_80 rfl 0 rfl ?_
    refine z_getF (j := 201) S fo_RX10_7 1 rfl rfl ok_200 dX10_trade_81 ?_
    refine z_bipush (v := 57) S dX10_trade_84 (by decide) ?_
    refine z_iconst (v := 5) S dX10_trade_86 (by decide) ?_
    refine z_iload_n S dX10_trade_87 rfl 2 rfl ?_
    refine z_imul S dX10_trade_88 ?_
    refine z_iadd S dX10_trade_89 ?_
    refine z_iload_n S dX10_trade_90 rfl 3 rfl ?_
    refine z_iadd S dX10_trade_91 ?_
    refine z_iload S dX10_trade_92 4 rfl ?_
    refine z_iastb S ok_201 rfl he dX10_trade_94 (fun M7 he => ?_)
    refine z_iinc (v := (v3 + 1)) (lv' := [(0, .ref (X.2.2 200)), (1, .int v1), (2, .int v2), (3, .int (v3 + 1)), (4, .int r4)]) S [1, 2, 3, 0, 4] 3 dX10_trade_95 rfl (by rfl) (by decide) rfl ?_
    refine z_goto (tgt := 48) S dX10_trade_98 (by decide) ?_
    refine z_lv (ks := [0, 1, 2, 3]) rfl ?_
    exact hc _ (Option.some.inj he).symm
set_option maxRecDepth 100000 in
set_option maxHeartbeats 4000000 in
theorem p_X10_trade_J31 {X : Cx} {p : Program} {l : Launch} {e : Env} {s : State} {m : MethodId} {args : Array Value} {below : List Frame} {meth : Method} {c : Code} (S : SB X 1 p s m args meth c cX10_trade 5 none RX10) {M : Mm} {N : Mm} {v1 : Int32} {v2 : Int32} {t0 : Int32}  (he : f_X10_trade_J31 M v1 v2 t0 = some N) : Z X 1 p l e rm_X10_trade s m args below meth c 0 0 (MQ below (QV X 1 N s.heap.size) args s 0 0 (AA X 1 s.heap.size)) 5 M 31 [(0, .ref (X.2.2 200)), (1, .int v1), (2, .int v2)] [.int t0, .ref (X.2.2 200)] := by
  unfold f_X10_trade_J31 at he
  refine z_putIb S fo_RX10_63p rfl ok_200 rfl rfl he dX10_trade_31 (fun M2 he => ?_)
  refine z_aload_n S dX10_trade_34 rfl 0 rfl ?_
  refine z_getI S fo_RX10_63 rfl ok_200 dX10_trade_35 ?_
  refine z_if_le (tgt := 42) S he dX10_trade_38 (by decide) (fun he => ?_) (fun he => ?_)
  · refine z_aload_n S dX10_trade_42 rfl 0 rfl ?_
    obtain ⟨M3, h9, he⟩ := bnd he
    refine z_cVV (As := []) S cv_RX10_306 (K_X10_remembers  h9) ok_200 (by decide) (q := (RX10, TX10, 28)) rfl rfl ⟨rfl, rfl⟩ ⟨Nat.le_of_ble_eq_true rfl, Nat.le_of_ble_eq_true rfl⟩ ⟨Nat.le_refl _, Nat.le_refl _⟩ rfl rfl (Nat.le_of_ble_eq_true rfl) dX10_trade_43 ?_
    refine z_iconst (v := 0) S dX10_trade_46 (by decide) ?_
    refine z_istore_n (lv' := [(0, .ref (X.2.2 200)), (1, .int v1), (2, .int v2), (3, .int 0)]) S [1, 2, 3, 0] dX10_trade_47 rfl (by decide) rfl ?_
    obtain ⟨e_8, hl, he⟩ := bnd he
    have hX : Z X 1 p l e rm_X10_trade s m args below meth c 0 0 (MQ below (QV X 1 N s.heap.size) args s 0 0 (AA X 1 s.heap.size)) 5 e_8 101 [] [] := by
      exact z_vret S (Option.some.inj he) dX10_trade_101
    exact loopZ (Zh := (fun a_8 => Z X 1 p l e rm_X10_trade s m args below meth c 0 0 (MQ below (QV X 1 N s.heap.size) args s 0 0 (AA X 1 s.heap.size)) 5 a_8.1 48 [(0, .ref (X.2.2 200)), (1, .int v1), (2, .int v2), (3, .int a_8.2)] [])) (fun a_8 x hb hc hr => p_X10_trade_L48 S  hb hc (fun b hxe => by rw [hr b hxe]; exact hX)) FU _ hl
  · exact z_vret S (Option.some.inj he) dX10_trade_41
set_option maxRecDepth 100000 in
set_option maxHeartbeats 4000000 in
theorem p_X10_trade_J17 {X : Cx} {p : Program} {l : Launch} {e : Env} {s : State} {m : MethodId} {args : Array Value} {below : List Frame} {meth : Method} {c : Code} (S : SB X 1 p s m args meth c cX10_trade 5 none RX10) {M : Mm} {N : Mm} {v1 : Int32} {v2 : Int32}  (he : f_X10_trade_J17 M v1 v2 = some N) : Z X 1 p l e rm_X10_trade s m args below meth c 0 0 (MQ below (QV X 1 N s.heap.size) args s 0 0 (AA X 1 s.heap.size)) 5 M 17 [(0, .ref (X.2.2 200)), (1, .int v1), (2, .int v2)] [.ref (X.2.2 200)] := by
  unfold f_X10_trade_J17 at he
  refine z_iconst (v := 1) S dX10_trade_17 (by decide) ?_
  refine z_goto (tgt := 31) S dX10_trade_18 (by decide) ?_
  exact p_X10_trade_J31 S  he
set_option maxRecDepth 100000 in
set_option maxHeartbeats 4000000 in
theorem K_X10_trade {X : Cx} {l : Launch} {M : Mm} {a1 : Int32} {a2 : Int32} {N : Mm}  (he : f_X10_trade M a1 a2 = some N) : KV X 1 l yX10_trade (wz yX10_trade cX10_trade 5 none) rm_X10_trade [.ref (X.2.2 200), .int a1, .int a2] M N := by
  intro sz
  refine K_of (Qc := (fun sz => QV X 1 N sz)) (own := RX10) (lv0 := [(0, .ref (X.2.2 200)), (1, .int a1), (2, .int a2)]) (by decide +kernel) rfl (Nat.le_of_ble_eq_true rfl) rfl (fun p e s m args below meth c S => ?_) sz
  · unfold f_X10_trade at he
    refine z_aload_n S dX10_trade_0 rfl 0 rfl ?_
    refine z_aload_n S dX10_trade_1 rfl 0 rfl ?_
    refine z_iload_n S dX10_trade_2 rfl 1 rfl ?_
    obtain ⟨r1, h9, he⟩ := bnd he
    refine z_cVI (As := [.int a1]) S cv_RX10_300 (K_X10_isVisitor  h9) ok_200 (by decide) (q := (RX10, TX10, 28)) rfl rfl ⟨rfl, rfl⟩ ⟨Nat.le_of_ble_eq_true rfl, Nat.le_of_ble_eq_true rfl⟩ ⟨Nat.le_refl _, Nat.le_refl _⟩ rfl rfl (Nat.le_of_ble_eq_true rfl) dX10_trade_3 ?_
    refine z_ifb_eq (tgt := 17) S he dX10_trade_6 (by decide) (fun he => ?_) (fun he => ?_)
    · exact p_X10_trade_J17 S  he
    · refine z_aload_n S dX10_trade_9 rfl 0 rfl ?_
      refine z_iload_n S dX10_trade_10 rfl 2 rfl ?_
      obtain ⟨r9, h9, he⟩ := bnd he
      refine z_cVI (As := [.int a2]) S cv_RX10_300 (K_X10_isVisitor  h9) ok_200 (by decide) (q := (RX10, TX10, 28)) rfl rfl ⟨rfl, rfl⟩ ⟨Nat.le_of_ble_eq_true rfl, Nat.le_of_ble_eq_true rfl⟩ ⟨Nat.le_refl _, Nat.le_refl _⟩ rfl rfl (Nat.le_of_ble_eq_true rfl) dX10_trade_11 ?_
      refine z_ifb_ne (tgt := 21) S he dX10_trade_14 (by decide) (fun he => ?_) (fun he => ?_)
      · refine z_iload_n S dX10_trade_21 rfl 1 rfl ?_
        refine z_iload_n S dX10_trade_22 rfl 2 rfl ?_
        refine z_icmp_ne (tgt := 30) S he dX10_trade_23 (by decide) (fun he => ?_) (fun he => ?_)
        · refine z_iconst (v := 0) S dX10_trade_30 (by decide) ?_
          exact p_X10_trade_J31 S  he
        · refine z_iconst (v := 2) S dX10_trade_26 (by decide) ?_
          refine z_goto (tgt := 31) S dX10_trade_27 (by decide) ?_
          exact p_X10_trade_J31 S  he
      · exact p_X10_trade_J17 S  he
set_option maxRecDepth 100000 in
set_option maxHeartbeats 4000000 in
theorem K_X10_lesser {X : Cx} {l : Launch} {M : Mm} {a0 : Int32} {a1 : Int32} {r : Int32}  (he : f_X10_lesser M a0 a1 = r) : KI X 1 l yX10_lesser (wz yX10_lesser cX10_lesser 2 (some .int)) rm_X10_lesser [.int a0, .int a1] M r M := by
  intro sz
  refine K_of (Qc := (fun sz => QI X 1 r M sz)) (own := RX10) (lv0 := [(0, .int a0), (1, .int a1)]) (by decide +kernel) rfl (Nat.le_of_ble_eq_true rfl) rfl (fun p e s m args below meth c S => ?_) sz
  · unfold f_X10_lesser at he
    refine z_iload_n S dX10_lesser_0 rfl 0 rfl ?_
    refine z_iload_n S dX10_lesser_1 rfl 1 rfl ?_
    refine z_icmp_ge (tgt := 9) S he dX10_lesser_2 (by decide) (fun he => ?_) (fun he => ?_)
    · refine z_iload_n S dX10_lesser_9 rfl 1 rfl ?_
      exact z_iret S (⟨he, rfl⟩) dX10_lesser_10
    · refine z_iload_n S dX10_lesser_5 rfl 0 rfl ?_
      refine z_goto (tgt := 10) S dX10_lesser_6 (by decide) ?_
      exact z_iret S (⟨he, rfl⟩) dX10_lesser_10
set_option maxRecDepth 100000 in
set_option maxHeartbeats 4000000 in
theorem p_X6_hadAtAll_L4 {X : Cx} {p : Program} {l : Launch} {e : Env} {s : State} {m : MethodId} {args : Array Value} {below : List Frame} {meth : Method} {c : Code} (S : SB X 0 p s m args meth c cX6_hadAtAll 3 (some .int) RX6) {M : Mm} {r : Int32} {v1 : Int32} {v2 : Int32} {x : (Int32 × Int32) ⊕ Int32}  (he : f_X6_hadAtAll_L4 M v1 v2 = some x) (hc : ∀ b, x = .inl b → Z X 0 p l e rm_X6_hadAtAll s m args below meth c 0 0 (MQ below (QI X 0 r M s.heap.size) args s 0 0 (AA X 0 s.heap.size)) 3 M 4 [(0, .ref (X.2.2 82)), (1, .int b.1), (2, .int b.2)] []) (hx : ∀ b, x = .inr b → Z X 0 p l e rm_X6_hadAtAll s m args below meth c 0 0 (MQ below (QI X 0 r M s.heap.size) args s 0 0 (AA X 0 s.heap.size)) 3 M 34 [(1, .int b)] []) : Z X 0 p l e rm_X6_hadAtAll s m args below meth c 0 0 (MQ below (QI X 0 r M s.heap.size) args s 0 0 (AA X 0 s.heap.size)) 3 M 4 [(0, .ref (X.2.2 82)), (1, .int v1), (2, .int v2)] [] := by
  unfold f_X6_hadAtAll_L4 at he
  refine z_iload_n S dX6_hadAtAll_4 rfl 2 rfl ?_
  refine z_bipush (v := 10) S dX6_hadAtAll_5 (by decide) ?_
  refine z_icmp_ge (tgt := 34) S he dX6_hadAtAll_7 (by decide) (fun he => ?_) (fun he => ?_)
  · refine z_lv (ks := [1]) rfl ?_
    exact hx _ (Option.some.inj he).symm
  · refine z_aload_n S dX6_hadAtAll_10 rfl 0 rfl ?_
    refine z_getF (j := 85) S fo_RX6_18 3 rfl rfl ok_82 dX6_hadAtAll_11 ?_
    refine z_iload_n S dX6_hadAtAll_14 rfl 2 rfl ?_
    obtain ⟨r1, h9, he⟩ := bnd he
    refine z_cNI (As := [.ref (X.2.2 85), .int v2]) S cn_RX6_55 (K_X9_at ok_85 h9) ⟨rfl, rfl⟩ ⟨Nat.le_of_ble_eq_true rfl, Nat.le_of_ble_eq_true rfl⟩ ⟨Nat.le_refl _, Nat.le_refl _⟩ rfl rfl (Nat.le_of_ble_eq_true rfl) dX6_hadAtAll_15 ?_
    refine z_iconst (v := (-1)) S dX6_hadAtAll_18 (by decide) ?_
    refine z_icmp_eq (tgt := 28) S he dX6_hadAtAll_19 (by decide) (fun he => ?_) (fun he => ?_)
    · refine z_iinc (v := (v2 + 1)) (lv' := [(0, .ref (X.2.2 82)), (1, .int v1), (2, .int (v2 + 1))]) S [1, 2, 0] 2 dX6_hadAtAll_28 rfl (by rfl) (by decide) rfl ?_
      refine z_goto (tgt := 4) S dX6_hadAtAll_31 (by decide) ?_
      refine z_lv (ks := [0, 1, 2]) rfl ?_
      exact hc _ (Option.some.inj he).symm
    · refine z_iload_n S dX6_hadAtAll_22 rfl 1 rfl ?_
      refine z_iconst (v := 1) S dX6_hadAtAll_23 (by decide) ?_
      refine z_iload_n S dX6_hadAtAll_24 rfl 2 rfl ?_
      refine z_ishl S dX6_hadAtAll_25 ?_
      refine z_ior S dX6_hadAtAll_26 ?_
      obtain ⟨x2, ex2, he⟩ := bnd he
      rw [Option.some.inj ex2]
      refine z_istore_n (lv' := [(0, .ref (X.2.2 82)), (1, .int x2), (2, .int v2)]) S [1, 0, 2] dX6_hadAtAll_27 rfl (by decide) rfl ?_
      refine z_iinc (v := (v2 + 1)) (lv' := [(0, .ref (X.2.2 82)), (1, .int x2), (2, .int (v2 + 1))]) S [1, 2, 0] 2 dX6_hadAtAll_28 rfl (by rfl) (by decide) rfl ?_
      refine z_goto (tgt := 4) S dX6_hadAtAll_31 (by decide) ?_
      refine z_lv (ks := [0, 1, 2]) rfl ?_
      exact hc _ (Option.some.inj he).symm
set_option maxRecDepth 100000 in
set_option maxHeartbeats 4000000 in
theorem K_X6_hadAtAll {X : Cx} {l : Launch} {M : Mm} {r : Int32}  (he : f_X6_hadAtAll M  = some r) : KI X 0 l yX6_hadAtAll (wz yX6_hadAtAll cX6_hadAtAll 3 (some .int)) rm_X6_hadAtAll [.ref (X.2.2 82)] M r M := by
  intro sz
  refine K_of (Qc := (fun sz => QI X 0 r M sz)) (own := RX6) (lv0 := [(0, .ref (X.2.2 82))]) (by decide +kernel) rfl (Nat.le_of_ble_eq_true rfl) rfl (fun p e s m args below meth c S => ?_) sz
  · unfold f_X6_hadAtAll at he
    refine z_iconst (v := 0) S dX6_hadAtAll_0 (by decide) ?_
    refine z_istore_n (lv' := [(0, .ref (X.2.2 82)), (1, .int 0)]) S [1, 0] dX6_hadAtAll_1 rfl (by decide) rfl ?_
    refine z_iconst (v := 0) S dX6_hadAtAll_2 (by decide) ?_
    refine z_istore_n (lv' := [(0, .ref (X.2.2 82)), (1, .int 0), (2, .int 0)]) S [1, 2, 0] dX6_hadAtAll_3 rfl (by decide) rfl ?_
    obtain ⟨e_3, hl, he⟩ := bnd he
    have hX : Z X 0 p l e rm_X6_hadAtAll s m args below meth c 0 0 (MQ below (QI X 0 r M s.heap.size) args s 0 0 (AA X 0 s.heap.size)) 3 M 34 [(1, .int e_3)] [] := by
      refine z_iload_n S dX6_hadAtAll_34 rfl 0 rfl ?_
      exact z_iret S (⟨Option.some.inj he, rfl⟩) dX6_hadAtAll_35
    exact loopZ (Zh := (fun a_3 => Z X 0 p l e rm_X6_hadAtAll s m args below meth c 0 0 (MQ below (QI X 0 r M s.heap.size) args s 0 0 (AA X 0 s.heap.size)) 3 M 4 [(0, .ref (X.2.2 82)), (1, .int a_3.1), (2, .int a_3.2)] [])) (fun a_3 x hb hc hr => p_X6_hadAtAll_L4 S  hb hc (fun b hxe => by rw [hr b hxe]; exact hX)) FU _ hl
set_option maxRecDepth 100000 in
set_option maxHeartbeats 4000000 in
theorem K_X9_had {X : Cx} {l : Launch} {M : Mm} {r : Int32} {N : Mm}  (he : f_X9_had M  = some (r, N)) : KI X 0 l yX9_had (wz yX9_had cX9_had 1 (some .int)) rm_X9_had [.ref (X.2.2 1)] M r N := by
  intro sz
  refine K_of (Qc := (fun sz => QI X 0 r N sz)) (own := RX9) (lv0 := [(0, .ref (X.2.2 1))]) (by decide +kernel) rfl (Nat.le_of_ble_eq_true rfl) rfl (fun p e s m args below meth c S => ?_) sz
  · unfold f_X9_had at he
    refine z_aload_n S dX9_had_0 rfl 0 rfl ?_
    refine z_aload_n S dX9_had_1 rfl 0 rfl ?_
    refine z_getGb (k2 := 4) S fo_RX9_20 rfl ok_1 (by decide) he dX9_had_2 (fun q1 hq1 he => ?_)
    obtain ⟨⟨r2, M3⟩, h9, he⟩ := bnd he
    dsimp only at he
    refine z_cVI (As := [.ref (X.2.2 q1)]) S cv_RX9_151 (K_X9_tomorrow (okk4 hq1) h9) ok_1 (by decide) (q := (RX9, TX9, 17)) rfl rfl ⟨rfl, rfl⟩ ⟨Nat.le_of_ble_eq_true rfl, Nat.le_of_ble_eq_true rfl⟩ ⟨Nat.le_refl _, Nat.le_refl _⟩ rfl rfl (Nat.le_of_ble_eq_true rfl) dX9_had_5 ?_
    refine z_pop S rfl dX9_had_8 ?_
    refine z_aload_n S dX9_had_9 rfl 0 rfl ?_
    refine z_getF (j := 82) S fo_RX9_50 81 rfl rfl ok_1 dX9_had_10 ?_
    obtain ⟨r4, h9, he⟩ := bnd he
    refine z_cVI (As := []) S cv_RX9_249 (K_X6_hadAtAll  h9) ok_82 (by decide) (q := (RX6, TX6, 4)) rfl rfl ⟨rfl, rfl⟩ ⟨Nat.le_of_ble_eq_true rfl, Nat.le_of_ble_eq_true rfl⟩ ⟨Nat.le_refl _, Nat.le_refl _⟩ rfl rfl (Nat.le_of_ble_eq_true rfl) dX9_had_13 ?_
    exact z_iret S (Prod.mk.inj (Option.some.inj he)) dX9_had_16
set_option maxRecDepth 100000 in
set_option maxHeartbeats 4000000 in
theorem p_X10_hadNow_L4 {X : Cx} {p : Program} {l : Launch} {e : Env} {s : State} {m : MethodId} {args : Array Value} {below : List Frame} {meth : Method} {c : Code} (S : SB X 1 p s m args meth c cX10_hadNow 3 (some .int) RX10) {M : Mm} {r : Int32} {v1 : Int32} {v2 : Int32} {x : (Int32 × Int32) ⊕ Int32}  (he : f_X10_hadNow_L4 M v1 v2 = some x) (hc : ∀ b, x = .inl b → Z X 1 p l e rm_X10_hadNow s m args below meth c 0 0 (MQ below (QI X 1 r M s.heap.size) args s 0 0 (AA X 1 s.heap.size)) 3 M 4 [(0, .ref (X.2.2 200)), (1, .int b.1), (2, .int b.2)] []) (hx : ∀ b, x = .inr b → Z X 1 p l e rm_X10_hadNow s m args below meth c 0 0 (MQ below (QI X 1 r M s.heap.size) args s 0 0 (AA X 1 s.heap.size)) 3 M 40 [(1, .int b)] []) : Z X 1 p l e rm_X10_hadNow s m args below meth c 0 0 (MQ below (QI X 1 r M s.heap.size) args s 0 0 (AA X 1 s.heap.size)) 3 M 4 [(0, .ref (X.2.2 200)), (1, .int v1), (2, .int v2)] [] := by
  unfold f_X10_hadNow_L4 at he
  refine z_iload_n S dX10_hadNow_4 rfl 2 rfl ?_
  refine z_aload_n S dX10_hadNow_5 rfl 0 rfl ?_
  refine z_getF (j := 201) S fo_RX10_7 1 rfl rfl ok_200 dX10_hadNow_6 ?_
  refine z_iconst (v := 4) S dX10_hadNow_9 (by decide) ?_
  refine z_iald S ok_201 rfl he dX10_hadNow_10 (fun he => ?_)
  refine z_icmp_ge (tgt := 40) S he dX10_hadNow_11 (by decide) (fun he => ?_) (fun he => ?_)
  · refine z_lv (ks := [1]) rfl ?_
    exact hx _ (Option.some.inj he).symm
  · refine z_iload_n S dX10_hadNow_14 rfl 1 rfl ?_
    refine z_aload_n S dX10_hadNow_15 rfl 0 rfl ?_
    refine z_getF (j := 208) S fo_RX10_35 8 rfl rfl ok_200 dX10_hadNow_16 ?_
    refine z_iload_n S dX10_hadNow_19 rfl 2 rfl ?_
    refine z_iald S ok_208 rfl he dX10_hadNow_20 (fun he => ?_)
    refine z_iconst (v := (-1)) S dX10_hadNow_21 (by decide) ?_
    refine z_icmp_eq (tgt := 31) S he dX10_hadNow_22 (by decide) (fun he => ?_) (fun he => ?_)
    · refine z_iconst (v := 0) S dX10_hadNow_31 (by decide) ?_
      refine z_ior S dX10_hadNow_32 ?_
      refine z_istore_n (lv' := [(0, .ref (X.2.2 200)), (1, .int (v1 ||| 0)), (2, .int v2)]) S [1, 0, 2] dX10_hadNow_33 rfl (by decide) rfl ?_
      refine z_iinc (v := (v2 + 1)) (lv' := [(0, .ref (X.2.2 200)), (1, .int (v1 ||| 0)), (2, .int (v2 + 1))]) S [1, 2, 0] 2 dX10_hadNow_34 rfl (by rfl) (by decide) rfl ?_
      refine z_goto (tgt := 4) S dX10_hadNow_37 (by decide) ?_
      refine z_lv (ks := [0, 1, 2]) rfl ?_
      exact hc _ (Option.some.inj he).symm
    · refine z_iconst (v := 1) S dX10_hadNow_25 (by decide) ?_
      refine z_iload_n S dX10_hadNow_26 rfl 2 rfl ?_
      refine z_ishl S dX10_hadNow_27 ?_
      refine z_goto (tgt := 32) S dX10_hadNow_28 (by decide) ?_
      refine z_ior S dX10_hadNow_32 ?_
      obtain ⟨x1, ex1, he⟩ := bnd he
      rw [Option.some.inj ex1]
      refine z_istore_n (lv' := [(0, .ref (X.2.2 200)), (1, .int x1), (2, .int v2)]) S [1, 0, 2] dX10_hadNow_33 rfl (by decide) rfl ?_
      refine z_iinc (v := (v2 + 1)) (lv' := [(0, .ref (X.2.2 200)), (1, .int x1), (2, .int (v2 + 1))]) S [1, 2, 0] 2 dX10_hadNow_34 rfl (by rfl) (by decide) rfl ?_
      refine z_goto (tgt := 4) S dX10_hadNow_37 (by decide) ?_
      refine z_lv (ks := [0, 1, 2]) rfl ?_
      exact hc _ (Option.some.inj he).symm
set_option maxRecDepth 100000 in
set_option maxHeartbeats 4000000 in
theorem K_X10_hadNow {X : Cx} {l : Launch} {M : Mm} {r : Int32}  (he : f_X10_hadNow M  = some r) : KI X 1 l yX10_hadNow (wz yX10_hadNow cX10_hadNow 3 (some .int)) rm_X10_hadNow [.ref (X.2.2 200)] M r M := by
  intro sz
  refine K_of (Qc := (fun sz => QI X 1 r M sz)) (own := RX10) (lv0 := [(0, .ref (X.2.2 200))]) (by decide +kernel) rfl (Nat.le_of_ble_eq_true rfl) rfl (fun p e s m args below meth c S => ?_) sz
  · unfold f_X10_hadNow at he
    refine z_iconst (v := 0) S dX10_hadNow_0 (by decide) ?_
    refine z_istore_n (lv' := [(0, .ref (X.2.2 200)), (1, .int 0)]) S [1, 0] dX10_hadNow_1 rfl (by decide) rfl ?_
    refine z_iconst (v := 0) S dX10_hadNow_2 (by decide) ?_
    refine z_istore_n (lv' := [(0, .ref (X.2.2 200)), (1, .int 0), (2, .int 0)]) S [1, 2, 0] dX10_hadNow_3 rfl (by decide) rfl ?_
    obtain ⟨e_2, hl, he⟩ := bnd he
    have hX : Z X 1 p l e rm_X10_hadNow s m args below meth c 0 0 (MQ below (QI X 1 r M s.heap.size) args s 0 0 (AA X 1 s.heap.size)) 3 M 40 [(1, .int e_2)] [] := by
      refine z_iload_n S dX10_hadNow_40 rfl 0 rfl ?_
      exact z_iret S (⟨Option.some.inj he, rfl⟩) dX10_hadNow_41
    exact loopZ (Zh := (fun a_2 => Z X 1 p l e rm_X10_hadNow s m args below meth c 0 0 (MQ below (QI X 1 r M s.heap.size) args s 0 0 (AA X 1 s.heap.size)) 3 M 4 [(0, .ref (X.2.2 200)), (1, .int a_2.1), (2, .int a_2.2)] [])) (fun a_2 x hb hc hr => p_X10_hadNow_L4 S  hb hc (fun b hxe => by rw [hr b hxe]; exact hX)) FU _ hl
set_option maxRecDepth 100000 in
set_option maxHeartbeats 4000000 in
theorem p_X9_first_L11 {X : Cx} {p : Program} {l : Launch} {e : Env} {s : State} {m : MethodId} {args : Array Value} {below : List Frame} {meth : Method} {c : Code} (S : SB X 0 p s m args meth c cX9_first 3 (some .int) RX9) {M : Mm} {N : Mm} {r : Int32} {v1 : Int32} {x : Int32 ⊕ ((Int32 × Mm) ⊕ Unit)}  (he : f_X9_first_L11 M v1 = some x) (hc : ∀ b, x = .inl b → Z X 0 p l e rm_X9_first s m args below meth c 0 0 (MQ below (QI X 0 r N s.heap.size) args s 0 0 (AA X 0 s.heap.size)) 3 M 11 [(0, .ref (X.2.2 1)), (1, .int b)] []) (hx : ∀ b, x = .inr (.inr b) → Z X 0 p l e rm_X9_first s m args below meth c 0 0 (MQ below (QI X 0 r N s.heap.size) args s 0 0 (AA X 0 s.heap.size)) 3 M 63 [] []) (hr : ∀ v, x = .inr (.inl v) → v = (r, N)) : Z X 0 p l e rm_X9_first s m args below meth c 0 0 (MQ below (QI X 0 r N s.heap.size) args s 0 0 (AA X 0 s.heap.size)) 3 M 11 [(0, .ref (X.2.2 1)), (1, .int v1)] [] := by
  unfold f_X9_first_L11 at he
  refine z_iload_n S dX9_first_11 rfl 1 rfl ?_
  refine z_bipush (v := 20) S dX9_first_12 (by decide) ?_
  refine z_icmp_ge (tgt := 63) S he dX9_first_14 (by decide) (fun he => ?_) (fun he => ?_)
  · refine z_lv (ks := []) rfl ?_
    exact hx _ (Option.some.inj he).symm
  · refine z_aload_n S dX9_first_17 rfl 0 rfl ?_
    refine z_getGb (k2 := 4) S fo_RX9_20 rfl ok_1 (by decide) he dX9_first_18 (fun q4 hq4 he => ?_)
    refine z_iload_n S dX9_first_21 rfl 1 rfl ?_
    obtain ⟨r5, h9, he⟩ := bnd he
    refine z_cVI (As := [.int v1]) S cv_RX9_212 (K_X4_thingAt (okk4 hq4) h9) (okk4 hq4) (by decide) (q := (RX4, TX4, 10)) rfl rfl ⟨rfl, rfl⟩ ⟨Nat.le_of_ble_eq_true rfl, Nat.le_of_ble_eq_true rfl⟩ ⟨Nat.le_refl _, Nat.le_refl _⟩ rfl rfl (Nat.le_of_ble_eq_true rfl) dX9_first_22 ?_
    refine z_istore_n (lv' := [(0, .ref (X.2.2 1)), (1, .int v1), (2, .int r5)]) S [1, 2, 0] dX9_first_25 rfl (by decide) rfl ?_
    refine z_iload_n S dX9_first_26 rfl 2 rfl ?_
    refine z_iconst (v := (-1)) S dX9_first_27 (by decide) ?_
    refine z_icmp_eq (tgt := 57) S he dX9_first_28 (by decide) (fun he => ?_) (fun he => ?_)
    · refine z_iinc (v := (v1 + 1)) (lv' := [(0, .ref (X.2.2 1)), (1, .int (v1 + 1)), (2, .int r5)]) S [1, 0, 2] 1 dX9_first_57 rfl (by rfl) (by decide) rfl ?_
      refine z_goto (tgt := 11) S dX9_first_60 (by decide) ?_
      refine z_lv (ks := [0, 1]) rfl ?_
      exact hc _ (Option.some.inj he).symm
    · refine z_aload_n S dX9_first_31 rfl 0 rfl ?_
      refine z_getGb (k2 := 4) S fo_RX9_20 rfl ok_1 (by decide) he dX9_first_32 (fun q6 hq6 he => ?_)
      refine z_iload_n S dX9_first_35 rfl 2 rfl ?_
      refine z_iconst (v := 3) S dX9_first_36 (by decide) ?_
      obtain ⟨r7, h9, he⟩ := bnd he
      refine z_cVI (As := [.int r5, .int 3]) S cv_RX9_147 (K_X4_ofThing (okk4 hq6) h9) (okk4 hq6) (by decide) (q := (RX4, TX4, 10)) rfl rfl ⟨rfl, rfl⟩ ⟨Nat.le_of_ble_eq_true rfl, Nat.le_of_ble_eq_true rfl⟩ ⟨Nat.le_refl _, Nat.le_refl _⟩ rfl rfl (Nat.le_of_ble_eq_true rfl) dX9_first_37 ?_
      refine z_iconst (v := 1) S dX9_first_40 (by decide) ?_
      refine z_icmp_ne (tgt := 57) S he dX9_first_41 (by decide) (fun he => ?_) (fun he => ?_)
      · refine z_iinc (v := (v1 + 1)) (lv' := [(0, .ref (X.2.2 1)), (1, .int (v1 + 1)), (2, .int r5)]) S [1, 0, 2] 1 dX9_first_57 rfl (by rfl) (by decide) rfl ?_
        refine z_goto (tgt := 11) S dX9_first_60 (by decide) ?_
        refine z_lv (ks := [0, 1]) rfl ?_
        exact hc _ (Option.some.inj he).symm
      · refine z_aload_n S dX9_first_44 rfl 0 rfl ?_
        refine z_getF (j := 82) S fo_RX9_50 81 rfl rfl ok_1 dX9_first_45 ?_
        refine z_iload_n S dX9_first_48 rfl 2 rfl ?_
        obtain ⟨r8, h9, he⟩ := bnd he
        refine z_cVI (As := [.int r5]) S cv_RX9_162 (K_X6_hadBy  h9) ok_82 (by decide) (q := (RX6, TX6, 4)) rfl rfl ⟨rfl, rfl⟩ ⟨Nat.le_of_ble_eq_true rfl, Nat.le_of_ble_eq_true rfl⟩ ⟨Nat.le_refl _, Nat.le_refl _⟩ rfl rfl (Nat.le_of_ble_eq_true rfl) dX9_first_49 ?_
        refine z_if_ne (tgt := 57) S he dX9_first_52 (by decide) (fun he => ?_) (fun he => ?_)
        · refine z_iinc (v := (v1 + 1)) (lv' := [(0, .ref (X.2.2 1)), (1, .int (v1 + 1)), (2, .int r5)]) S [1, 0, 2] 1 dX9_first_57 rfl (by rfl) (by decide) rfl ?_
          refine z_goto (tgt := 11) S dX9_first_60 (by decide) ?_
          refine z_lv (ks := [0, 1]) rfl ?_
          exact hc _ (Option.some.inj he).symm
        · refine z_iload_n S dX9_first_55 rfl 2 rfl ?_
          exact z_iret S (Prod.mk.inj (hr _ (Option.some.inj he).symm)) dX9_first_56
set_option maxRecDepth 100000 in
set_option maxHeartbeats 4000000 in
theorem K_X9_first {X : Cx} {l : Launch} {M : Mm} {r : Int32} {N : Mm}  (he : f_X9_first M  = some (r, N)) : KI X 0 l yX9_first (wz yX9_first cX9_first 3 (some .int)) rm_X9_first [.ref (X.2.2 1)] M r N := by
  intro sz
  refine K_of (Qc := (fun sz => QI X 0 r N sz)) (own := RX9) (lv0 := [(0, .ref (X.2.2 1))]) (by decide +kernel) rfl (Nat.le_of_ble_eq_true rfl) rfl (fun p e s m args below meth c S => ?_) sz
  · unfold f_X9_first at he
    refine z_aload_n S dX9_first_0 rfl 0 rfl ?_
    refine z_aload_n S dX9_first_1 rfl 0 rfl ?_
    refine z_getGb (k2 := 4) S fo_RX9_20 rfl ok_1 (by decide) he dX9_first_2 (fun q1 hq1 he => ?_)
    obtain ⟨⟨r2, M3⟩, h9, he⟩ := bnd he
    dsimp only at he
    refine z_cVI (As := [.ref (X.2.2 q1)]) S cv_RX9_151 (K_X9_tomorrow (okk4 hq1) h9) ok_1 (by decide) (q := (RX9, TX9, 17)) rfl rfl ⟨rfl, rfl⟩ ⟨Nat.le_of_ble_eq_true rfl, Nat.le_of_ble_eq_true rfl⟩ ⟨Nat.le_refl _, Nat.le_refl _⟩ rfl rfl (Nat.le_of_ble_eq_true rfl) dX9_first_5 ?_
    refine z_pop S rfl dX9_first_8 ?_
    refine z_iconst (v := 0) S dX9_first_9 (by decide) ?_
    refine z_istore_n (lv' := [(0, .ref (X.2.2 1)), (1, .int 0)]) S [1, 0] dX9_first_10 rfl (by decide) rfl ?_
    obtain ⟨r9, hl, hr1, hr2⟩ := bndS he
    have hX : ∀ e_9, r9 = .inr e_9 → Z X 0 p l e rm_X9_first s m args below meth c 0 0 (MQ below (QI X 0 r N s.heap.size) args s 0 0 (AA X 0 s.heap.size)) 3 M3 63 [] [] := by
      intro e_9 hre
      have he := hr2 e_9 hre
      refine z_iconst (v := (-1)) S dX9_first_63 (by decide) ?_
      exact z_iret S (Prod.mk.inj (Option.some.inj he)) dX9_first_64
    exact loopZ (Zh := (fun a_9 => Z X 0 p l e rm_X9_first s m args below meth c 0 0 (MQ below (QI X 0 r N s.heap.size) args s 0 0 (AA X 0 s.heap.size)) 3 M3 11 [(0, .ref (X.2.2 1)), (1, .int a_9)] [])) (fun a_9 x hb hc hr9 => p_X9_first_L11 S  hb hc (fun b hxe => hX b (hr9 _ hxe).symm) (fun v hxv => Option.some.inj (hr1 v (hr9 _ hxv).symm))) FU _ hl
set_option maxRecDepth 100000 in
set_option maxHeartbeats 4000000 in
theorem p_X5_take_L28 {X : Cx} {p : Program} {l : Launch} {e : Env} {s : State} {m : MethodId} {args : Array Value} {below : List Frame} {meth : Method} {c : Code} (S : SB X 0 p s m args meth c cX5_take 4 none RX5) {M : Mm} {N : Mm} {v1 : Nat} {v3 : Int32} {x : (Mm × Int32) ⊕ Mm} (h_v1 : OK 0 v1 4) (he : f_X5_take_L28 M v1 v3 = some x) (hc : ∀ b, x = .inl b → Z X 0 p l e rm_X5_take s m args below meth c 0 0 (MQ below (QV X 0 N s.heap.size) args s 0 0 (AA X 0 s.heap.size)) 4 b.1 28 [(0, .ref (X.2.2 87)), (1, .ref (X.2.2 v1)), (2, .ref (X.2.2 82)), (3, .int b.2)] []) (hx : ∀ b, x = .inr b → Z X 0 p l e rm_X5_take s m args below meth c 0 0 (MQ below (QV X 0 N s.heap.size) args s 0 0 (AA X 0 s.heap.size)) 4 b 72 [] []) : Z X 0 p l e rm_X5_take s m args below meth c 0 0 (MQ below (QV X 0 N s.heap.size) args s 0 0 (AA X 0 s.heap.size)) 4 M 28 [(0, .ref (X.2.2 87)), (1, .ref (X.2.2 v1)), (2, .ref (X.2.2 82)), (3, .int v3)] [] := by
  unfold f_X5_take_L28 at he
  refine z_iload_n S dX5_take_28 rfl 3 rfl ?_
  refine z_aload_n S dX5_take_29 rfl 0 rfl ?_
  refine z_getI S fo_RX5_24 rfl ok_87 dX5_take_30 ?_
  refine z_icmp_ge (tgt := 72) S he dX5_take_33 (by decide) (fun he => ?_) (fun he => ?_)
  · refine z_lv (ks := []) rfl ?_
    exact hx _ (Option.some.inj he).symm
  · refine z_aload_n S dX5_take_36 rfl 0 rfl ?_
    refine z_getF (j := 88) S fo_RX5_9 1 rfl rfl ok_87 dX5_take_37 ?_
    refine z_iload_n S dX5_take_40 rfl 3 rfl ?_
    refine z_aload_n S dX5_take_41 rfl 2 rfl ?_
    refine z_getF (j := 84) S fo_RX5_32 2 rfl rfl ok_82 dX5_take_42 ?_
    refine z_iload_n S dX5_take_45 rfl 3 rfl ?_
    obtain ⟨r4, h9, he⟩ := bnd he
    refine z_cNI (As := [.ref (X.2.2 84), .int v3]) S cn_RX5_35 (K_X9_at ok_84 h9) ⟨rfl, rfl⟩ ⟨Nat.le_of_ble_eq_true rfl, Nat.le_of_ble_eq_true rfl⟩ ⟨Nat.le_refl _, Nat.le_refl _⟩ rfl rfl (Nat.le_of_ble_eq_true rfl) dX5_take_46 ?_
    obtain ⟨M5, h9, he⟩ := bnd he
    refine z_cNV (As := [.ref (X.2.2 88), .int v3, .int r4]) S cn_RX5_39 (K_X9_put ok_88 h9) ⟨rfl, rfl⟩ ⟨Nat.le_of_ble_eq_true rfl, Nat.le_of_ble_eq_true rfl⟩ ⟨Nat.le_refl _, Nat.le_refl _⟩ rfl rfl (Nat.le_of_ble_eq_true rfl) dX5_take_49 ?_
    refine z_aload_n S dX5_take_52 rfl 0 rfl ?_
    refine z_getF (j := 89) S fo_RX5_15 2 rfl rfl ok_87 dX5_take_53 ?_
    refine z_iload_n S dX5_take_56 rfl 3 rfl ?_
    refine z_aload_n S dX5_take_57 rfl 1 rfl ?_
    refine z_iload_n S dX5_take_58 rfl 3 rfl ?_
    refine z_iconst (v := 2) S dX5_take_59 (by decide) ?_
    obtain ⟨r6, h9, he⟩ := bnd he
    refine z_cVI (As := [.int v3, .int 2]) S cv_RX5_43 (K_X4_ofThing h_v1 h9) h_v1 (by decide) (q := (RX4, TX4, 10)) rfl rfl ⟨rfl, rfl⟩ ⟨Nat.le_of_ble_eq_true rfl, Nat.le_of_ble_eq_true rfl⟩ ⟨Nat.le_refl _, Nat.le_refl _⟩ rfl rfl (Nat.le_of_ble_eq_true rfl) dX5_take_60 ?_
    obtain ⟨M7, h9, he⟩ := bnd he
    refine z_cNV (As := [.ref (X.2.2 89), .int v3, .int r6]) S cn_RX5_39 (K_X9_put ok_89 h9) ⟨rfl, rfl⟩ ⟨Nat.le_of_ble_eq_true rfl, Nat.le_of_ble_eq_true rfl⟩ ⟨Nat.le_refl _, Nat.le_refl _⟩ rfl rfl (Nat.le_of_ble_eq_true rfl) dX5_take_63 ?_
    refine z_iinc (v := (v3 + 1)) (lv' := [(0, .ref (X.2.2 87)), (1, .ref (X.2.2 v1)), (2, .ref (X.2.2 82)), (3, .int (v3 + 1))]) S [1, 2, 3, 0] 3 dX5_take_66 rfl (by rfl) (by decide) rfl ?_
    refine z_goto (tgt := 28) S dX5_take_69 (by decide) ?_
    refine z_lv (ks := [0, 1, 2, 3]) rfl ?_
    exact hc _ (Option.some.inj he).symm
set_option maxRecDepth 100000 in
set_option maxHeartbeats 4000000 in
theorem K_X5_take {X : Cx} {l : Launch} {M : Mm} {a1 : Nat} {N : Mm} (h_a1 : OK 0 a1 4) (he : f_X5_take M a1 = some N) : KV X 0 l yX5_take (wz yX5_take cX5_take 4 none) rm_X5_take [.ref (X.2.2 87), .ref (X.2.2 a1), .ref (X.2.2 82)] M N := by
  intro sz
  refine K_of (Qc := (fun sz => QV X 0 N sz)) (own := RX5) (lv0 := [(0, .ref (X.2.2 87)), (1, .ref (X.2.2 a1)), (2, .ref (X.2.2 82))]) (by decide +kernel) rfl (Nat.le_of_ble_eq_true rfl) rfl (fun p e s m args below meth c S => ?_) sz
  · unfold f_X5_take at he
    refine z_aload_n S dX5_take_0 rfl 0 rfl ?_
    refine z_aload_n S dX5_take_1 rfl 1 rfl ?_
    refine z_getI S fo_RX5_18 rfl h_a1 dX5_take_2 ?_
    refine z_putIb S fo_RX5_24p rfl ok_87 rfl rfl he dX5_take_5 (fun M1 he => ?_)
    refine z_aload_n S dX5_take_8 rfl 0 rfl ?_
    refine z_aload_n S dX5_take_9 rfl 1 rfl ?_
    refine z_getI S fo_RX5_25 rfl h_a1 dX5_take_10 ?_
    refine z_putIb S fo_RX5_28p rfl ok_87 rfl rfl he dX5_take_13 (fun M2 he => ?_)
    refine z_aload_n S dX5_take_16 rfl 0 rfl ?_
    refine z_iconst (v := 1) S dX5_take_17 (by decide) ?_
    refine z_aload_n S dX5_take_18 rfl 0 rfl ?_
    refine z_getI S fo_RX5_28 rfl ok_87 dX5_take_19 ?_
    refine z_ishl S dX5_take_22 ?_
    refine z_putIb S fo_RX5_29p rfl ok_87 rfl rfl he dX5_take_23 (fun M3 he => ?_)
    refine z_iconst (v := 0) S dX5_take_26 (by decide) ?_
    refine z_istore_n (lv' := [(0, .ref (X.2.2 87)), (1, .ref (X.2.2 a1)), (2, .ref (X.2.2 82)), (3, .int 0)]) S [1, 2, 3, 0] dX5_take_27 rfl (by decide) rfl ?_
    obtain ⟨e_8, hl, he⟩ := bnd he
    have hX : Z X 0 p l e rm_X5_take s m args below meth c 0 0 (MQ below (QV X 0 N s.heap.size) args s 0 0 (AA X 0 s.heap.size)) 4 e_8 72 [] [] := by
      exact z_vret S (Option.some.inj he) dX5_take_72
    exact loopZ (Zh := (fun a_8 => Z X 0 p l e rm_X5_take s m args below meth c 0 0 (MQ below (QV X 0 N s.heap.size) args s 0 0 (AA X 0 s.heap.size)) 4 a_8.1 28 [(0, .ref (X.2.2 87)), (1, .ref (X.2.2 a1)), (2, .ref (X.2.2 82)), (3, .int a_8.2)] [])) (fun a_8 x hb hc hr => p_X5_take_L28 S h_a1 hb hc (fun b hxe => by rw [hr b hxe]; exact hX)) FU _ hl
set_option maxRecDepth 100000 in
set_option maxHeartbeats 4000000 in
theorem K_X9_pairUp {X : Cx} {l : Launch} {M : Mm} {N : Mm}  (he : f_X9_pairUp M  = some N) : KV X 0 l yX9_pairUp (wz yX9_pairUp cX9_pairUp 1 none) rm_X9_pairUp [.ref (X.2.2 1)] M N := by
  intro sz
  refine K_of (Qc := (fun sz => QV X 0 N sz)) (own := RX9) (lv0 := [(0, .ref (X.2.2 1))]) (by decide +kernel) rfl (Nat.le_of_ble_eq_true rfl) rfl (fun p e s m args below meth c S => ?_) sz
  · unfold f_X9_pairUp at he
    refine z_aload_n S dX9_pairUp_0 rfl 0 rfl ?_
    refine z_getF (j := 82) S fo_RX9_50 81 rfl rfl ok_1 dX9_pairUp_1 ?_
    refine z_aload_n S dX9_pairUp_4 rfl 0 rfl ?_
    refine z_getGb (k2 := 4) S fo_RX9_20 rfl ok_1 (by decide) he dX9_pairUp_5 (fun q1 hq1 he => ?_)
    refine z_aload_n S dX9_pairUp_8 rfl 0 rfl ?_
    refine z_getGb (k2 := 2) S fo_RX9_30 rfl ok_1 (by decide) he dX9_pairUp_9 (fun q2 hq2 he => ?_)
    obtain ⟨M3, h9, he⟩ := bnd he
    refine z_cVV (As := [.ref (X.2.2 q1), .ref (X.2.2 q2)]) S cv_RX9_198 (K_X6_weigh (okk4 hq1) (okk2 hq2) h9) ok_82 (by decide) (q := (RX6, TX6, 4)) rfl rfl ⟨rfl, rfl⟩ ⟨Nat.le_of_ble_eq_true rfl, Nat.le_of_ble_eq_true rfl⟩ ⟨Nat.le_refl _, Nat.le_refl _⟩ rfl rfl (Nat.le_of_ble_eq_true rfl) dX9_pairUp_12 ?_
    refine z_aload_n S dX9_pairUp_15 rfl 0 rfl ?_
    refine z_getF (j := 87) S fo_RX9_57 86 rfl rfl ok_1 dX9_pairUp_16 ?_
    refine z_aload_n S dX9_pairUp_19 rfl 0 rfl ?_
    refine z_getGb (k2 := 4) S fo_RX9_20 rfl ok_1 (by decide) he dX9_pairUp_20 (fun q4 hq4 he => ?_)
    refine z_aload_n S dX9_pairUp_23 rfl 0 rfl ?_
    refine z_getF (j := 82) S fo_RX9_50 81 rfl rfl ok_1 dX9_pairUp_24 ?_
    obtain ⟨M5, h9, he⟩ := bnd he
    refine z_cVV (As := [.ref (X.2.2 q4), .ref (X.2.2 82)]) S cv_RX9_272 (K_X5_take (okk4 hq4) h9) ok_87 (by decide) (q := (RX5, TX5, 5)) rfl rfl ⟨rfl, rfl⟩ ⟨Nat.le_of_ble_eq_true rfl, Nat.le_of_ble_eq_true rfl⟩ ⟨Nat.le_refl _, Nat.le_refl _⟩ rfl rfl (Nat.le_of_ble_eq_true rfl) dX9_pairUp_27 ?_
    exact z_vret S (Option.some.inj he) dX9_pairUp_30
set_option maxRecDepth 100000 in
set_option maxHeartbeats 4000000 in
theorem p_X5_tooMany_L4 {X : Cx} {p : Program} {l : Launch} {e : Env} {s : State} {m : MethodId} {args : Array Value} {below : List Frame} {meth : Method} {c : Code} (S : SB X 0 p s m args meth c cX5_tooMany 4 (some .boolean) RX5) {M : Mm} {r : Bool} {v1 : Int32} {v2 : Int32} {v3 : Int32} {x : (Int32 × Int32) ⊕ Int32}  (he : f_X5_tooMany_L4 M v1 v2 v3 = some x) (hc : ∀ b, x = .inl b → Z X 0 p l e rm_X5_tooMany s m args below meth c 0 0 (MQ below (QI X 0 (bI r) M s.heap.size) args s 0 0 (AA X 0 s.heap.size)) 4 M 4 [(0, .ref (X.2.2 87)), (1, .int v1), (2, .int b.1), (3, .int b.2)] []) (hx : ∀ b, x = .inr b → Z X 0 p l e rm_X5_tooMany s m args below meth c 0 0 (MQ below (QI X 0 (bI r) M s.heap.size) args s 0 0 (AA X 0 s.heap.size)) 4 M 42 [(1, .int v1), (2, .int b)] []) : Z X 0 p l e rm_X5_tooMany s m args below meth c 0 0 (MQ below (QI X 0 (bI r) M s.heap.size) args s 0 0 (AA X 0 s.heap.size)) 4 M 4 [(0, .ref (X.2.2 87)), (1, .int v1), (2, .int v2), (3, .int v3)] [] := by
  unfold f_X5_tooMany_L4 at he
  refine z_iload_n S dX5_tooMany_4 rfl 3 rfl ?_
  refine z_aload_n S dX5_tooMany_5 rfl 0 rfl ?_
  refine z_getI S fo_RX5_24 rfl ok_87 dX5_tooMany_6 ?_
  refine z_icmp_ge (tgt := 42) S he dX5_tooMany_9 (by decide) (fun he => ?_) (fun he => ?_)
  · refine z_lv (ks := [1, 2]) rfl ?_
    exact hx _ (Option.some.inj he).symm
  · refine z_aload_n S dX5_tooMany_12 rfl 0 rfl ?_
    refine z_getF (j := 88) S fo_RX5_9 1 rfl rfl ok_87 dX5_tooMany_13 ?_
    refine z_iload_n S dX5_tooMany_16 rfl 3 rfl ?_
    obtain ⟨r1, h9, he⟩ := bnd he
    refine z_cNI (As := [.ref (X.2.2 88), .int v3]) S cn_RX5_35 (K_X9_at ok_88 h9) ⟨rfl, rfl⟩ ⟨Nat.le_of_ble_eq_true rfl, Nat.le_of_ble_eq_true rfl⟩ ⟨Nat.le_refl _, Nat.le_refl _⟩ rfl rfl (Nat.le_of_ble_eq_true rfl) dX5_tooMany_17 ?_
    refine z_iload_n S dX5_tooMany_20 rfl 1 rfl ?_
    refine z_iand S dX5_tooMany_21 ?_
    refine z_if_eq (tgt := 36) S he dX5_tooMany_22 (by decide) (fun he => ?_) (fun he => ?_)
    · refine z_iinc (v := (v3 + 1)) (lv' := [(0, .ref (X.2.2 87)), (1, .int v1), (2, .int v2), (3, .int (v3 + 1))]) S [1, 2, 3, 0] 3 dX5_tooMany_36 rfl (by rfl) (by decide) rfl ?_
      refine z_goto (tgt := 4) S dX5_tooMany_39 (by decide) ?_
      refine z_lv (ks := [0, 1, 2, 3]) rfl ?_
      exact hc _ (Option.some.inj he).symm
    · refine z_iload_n S dX5_tooMany_25 rfl 2 rfl ?_
      refine z_aload_n S dX5_tooMany_26 rfl 0 rfl ?_
      refine z_getF (j := 89) S fo_RX5_15 2 rfl rfl ok_87 dX5_tooMany_27 ?_
      refine z_iload_n S dX5_tooMany_30 rfl 3 rfl ?_
      obtain ⟨r2, h9, he⟩ := bnd he
      refine z_cNI (As := [.ref (X.2.2 89), .int v3]) S cn_RX5_35 (K_X9_at ok_89 h9) ⟨rfl, rfl⟩ ⟨Nat.le_of_ble_eq_true rfl, Nat.le_of_ble_eq_true rfl⟩ ⟨Nat.le_refl _, Nat.le_refl _⟩ rfl rfl (Nat.le_of_ble_eq_true rfl) dX5_tooMany_31 ?_
      refine z_iadd S dX5_tooMany_34 ?_
      refine z_istore_n (lv' := [(0, .ref (X.2.2 87)), (1, .int v1), (2, .int (v2 + r2)), (3, .int v3)]) S [1, 2, 0, 3] dX5_tooMany_35 rfl (by decide) rfl ?_
      refine z_iinc (v := (v3 + 1)) (lv' := [(0, .ref (X.2.2 87)), (1, .int v1), (2, .int (v2 + r2)), (3, .int (v3 + 1))]) S [1, 2, 3, 0] 3 dX5_tooMany_36 rfl (by rfl) (by decide) rfl ?_
      refine z_goto (tgt := 4) S dX5_tooMany_39 (by decide) ?_
      refine z_lv (ks := [0, 1, 2, 3]) rfl ?_
      exact hc _ (Option.some.inj he).symm
set_option maxRecDepth 100000 in
set_option maxHeartbeats 4000000 in
theorem K_X5_tooMany {X : Cx} {l : Launch} {M : Mm} {a1 : Int32} {r : Bool}  (he : f_X5_tooMany M a1 = some r) : KI X 0 l yX5_tooMany (wz yX5_tooMany cX5_tooMany 4 (some .boolean)) rm_X5_tooMany [.ref (X.2.2 87), .int a1] M (bI r) M := by
  intro sz
  refine K_of (Qc := (fun sz => QI X 0 (bI r) M sz)) (own := RX5) (lv0 := [(0, .ref (X.2.2 87)), (1, .int a1)]) (by decide +kernel) rfl (Nat.le_of_ble_eq_true rfl) rfl (fun p e s m args below meth c S => ?_) sz
  · unfold f_X5_tooMany at he
    refine z_iconst (v := 0) S dX5_tooMany_0 (by decide) ?_
    refine z_istore_n (lv' := [(0, .ref (X.2.2 87)), (1, .int a1), (2, .int 0)]) S [1, 2, 0] dX5_tooMany_1 rfl (by decide) rfl ?_
    refine z_iconst (v := 0) S dX5_tooMany_2 (by decide) ?_
    refine z_istore_n (lv' := [(0, .ref (X.2.2 87)), (1, .int a1), (2, .int 0), (3, .int 0)]) S [1, 2, 3, 0] dX5_tooMany_3 rfl (by decide) rfl ?_
    obtain ⟨e_3, hl, he⟩ := bnd he
    have hX : Z X 0 p l e rm_X5_tooMany s m args below meth c 0 0 (MQ below (QI X 0 (bI r) M s.heap.size) args s 0 0 (AA X 0 s.heap.size)) 4 M 42 [(1, .int a1), (2, .int e_3)] [] := by
      refine z_iload_n S dX5_tooMany_42 rfl 0 rfl ?_
      obtain ⟨r4, h9, he⟩ := bnd he
      refine z_cSI (As := [.int a1]) S cs_RX5_47 (K_J6_bitCount_0f7a4  h9) ⟨rfl, rfl⟩ ⟨Nat.le_of_ble_eq_true rfl, Nat.le_of_ble_eq_true rfl⟩ ⟨Nat.le_refl _, Nat.le_refl _⟩ rfl rfl (Nat.le_of_ble_eq_true rfl) dX5_tooMany_43 ?_
      refine z_iload_n S dX5_tooMany_46 rfl 1 rfl ?_
      refine z_icmp_le (tgt := 54) S he dX5_tooMany_47 (by decide) (fun he => ?_) (fun he => ?_)
      · refine z_iconst (v := 0) S dX5_tooMany_54 (by decide) ?_
        exact z_zret0 S (⟨Option.some.inj he, rfl⟩) dX5_tooMany_55
      · refine z_iconst (v := 1) S dX5_tooMany_50 (by decide) ?_
        refine z_goto (tgt := 55) S dX5_tooMany_51 (by decide) ?_
        exact z_zret1 S (⟨Option.some.inj he, rfl⟩) dX5_tooMany_55
    exact loopZ (Zh := (fun a_3 => Z X 0 p l e rm_X5_tooMany s m args below meth c 0 0 (MQ below (QI X 0 (bI r) M s.heap.size) args s 0 0 (AA X 0 s.heap.size)) 4 M 4 [(0, .ref (X.2.2 87)), (1, .int a1), (2, .int a_3.1), (3, .int a_3.2)] [])) (fun a_3 x hb hc hr => p_X5_tooMany_L4 S  hb hc (fun b hxe => by rw [hr b hxe]; exact hX)) FU _ hl
set_option maxRecDepth 100000 in
set_option maxHeartbeats 4000000 in
theorem p_X5_anyTooMany_L4 {X : Cx} {p : Program} {l : Launch} {e : Env} {s : State} {m : MethodId} {args : Array Value} {below : List Frame} {meth : Method} {c : Code} (S : SB X 0 p s m args meth c cX5_anyTooMany 4 (some .boolean) RX5) {M : Mm} {r : Bool} {v1 : Int32} {v3 : Int32} {x : Int32 ⊕ ((Bool) ⊕ Unit)}  (he : f_X5_anyTooMany_L4 M v1 v3 = some x) (hc : ∀ b, x = .inl b → Z X 0 p l e rm_X5_anyTooMany s m args below meth c 0 0 (MQ below (QI X 0 (bI r) M s.heap.size) args s 0 0 (AA X 0 s.heap.size)) 4 M 4 [(0, .ref (X.2.2 87)), (1, .int v1), (3, .int b)] []) (hx : ∀ b, x = .inr (.inr b) → Z X 0 p l e rm_X5_anyTooMany s m args below meth c 0 0 (MQ below (QI X 0 (bI r) M s.heap.size) args s 0 0 (AA X 0 s.heap.size)) 4 M 33 [] []) (hr : ∀ v, x = .inr (.inl v) → v = r) : Z X 0 p l e rm_X5_anyTooMany s m args below meth c 0 0 (MQ below (QI X 0 (bI r) M s.heap.size) args s 0 0 (AA X 0 s.heap.size)) 4 M 4 [(0, .ref (X.2.2 87)), (1, .int v1), (3, .int v3)] [] := by
  unfold f_X5_anyTooMany_L4 at he
  refine z_iload_n S dX5_anyTooMany_4 rfl 2 rfl ?_
  refine z_iload_n S dX5_anyTooMany_5 rfl 1 rfl ?_
  refine z_icmp_gt (tgt := 33) S he dX5_anyTooMany_6 (by decide) (fun he => ?_) (fun he => ?_)
  · refine z_lv (ks := []) rfl ?_
    exact hx _ (Option.some.inj he).symm
  · refine z_iload_n S dX5_anyTooMany_9 rfl 2 rfl ?_
    refine z_iload_n S dX5_anyTooMany_10 rfl 1 rfl ?_
    refine z_iconst (v := (-1)) S dX5_anyTooMany_11 (by decide) ?_
    refine z_ixor S dX5_anyTooMany_12 ?_
    refine z_iand S dX5_anyTooMany_13 ?_
    refine z_if_ne (tgt := 27) S he dX5_anyTooMany_14 (by decide) (fun he => ?_) (fun he => ?_)
    · refine z_iinc (v := (v3 + 1)) (lv' := [(0, .ref (X.2.2 87)), (1, .int v1), (3, .int (v3 + 1))]) S [1, 2, 0] 2 dX5_anyTooMany_27 rfl (by rfl) (by decide) rfl ?_
      refine z_goto (tgt := 4) S dX5_anyTooMany_30 (by decide) ?_
      refine z_lv (ks := [0, 1, 2]) rfl ?_
      exact hc _ (Option.some.inj he).symm
    · refine z_aload_n S dX5_anyTooMany_17 rfl 0 rfl ?_
      refine z_iload_n S dX5_anyTooMany_18 rfl 2 rfl ?_
      obtain ⟨r1, h9, he⟩ := bnd he
      refine z_cVI (As := [.int v3]) S cv_RX5_53 (K_X5_tooMany  h9) ok_87 (by decide) (q := (RX5, TX5, 5)) rfl rfl ⟨rfl, rfl⟩ ⟨Nat.le_of_ble_eq_true rfl, Nat.le_of_ble_eq_true rfl⟩ ⟨Nat.le_refl _, Nat.le_refl _⟩ rfl rfl (Nat.le_of_ble_eq_true rfl) dX5_anyTooMany_19 ?_
      refine z_ifb_eq (tgt := 27) S he dX5_anyTooMany_22 (by decide) (fun he => ?_) (fun he => ?_)
      · refine z_iinc (v := (v3 + 1)) (lv' := [(0, .ref (X.2.2 87)), (1, .int v1), (3, .int (v3 + 1))]) S [1, 2, 0] 2 dX5_anyTooMany_27 rfl (by rfl) (by decide) rfl ?_
        refine z_goto (tgt := 4) S dX5_anyTooMany_30 (by decide) ?_
        refine z_lv (ks := [0, 1, 2]) rfl ?_
        exact hc _ (Option.some.inj he).symm
      · refine z_iconst (v := 1) S dX5_anyTooMany_25 (by decide) ?_
        exact z_zret1 S (⟨hr _ (Option.some.inj he).symm, rfl⟩) dX5_anyTooMany_26
set_option maxRecDepth 100000 in
set_option maxHeartbeats 4000000 in
theorem K_X5_anyTooMany {X : Cx} {l : Launch} {M : Mm} {a1 : Int32} {a2 : Int32} {r : Bool}  (he : f_X5_anyTooMany M a1 a2 = some r) : KI X 0 l yX5_anyTooMany (wz yX5_anyTooMany cX5_anyTooMany 4 (some .boolean)) rm_X5_anyTooMany [.ref (X.2.2 87), .int a1, .int a2] M (bI r) M := by
  intro sz
  refine K_of (Qc := (fun sz => QI X 0 (bI r) M sz)) (own := RX5) (lv0 := [(0, .ref (X.2.2 87)), (1, .int a1), (2, .int a2)]) (by decide +kernel) rfl (Nat.le_of_ble_eq_true rfl) rfl (fun p e s m args below meth c S => ?_) sz
  · unfold f_X5_anyTooMany at he
    refine z_iconst (v := 1) S dX5_anyTooMany_0 (by decide) ?_
    refine z_iload_n S dX5_anyTooMany_1 rfl 2 rfl ?_
    refine z_ishl S dX5_anyTooMany_2 ?_
    refine z_istore_n (lv' := [(0, .ref (X.2.2 87)), (1, .int a1), (3, .int (1 <<< (a2 &&& 31)))]) S [1, 2, 0] dX5_anyTooMany_3 rfl (by decide) rfl ?_
    obtain ⟨r9, hl, hr1, hr2⟩ := bndS he
    have hX : ∀ e_2, r9 = .inr e_2 → Z X 0 p l e rm_X5_anyTooMany s m args below meth c 0 0 (MQ below (QI X 0 (bI r) M s.heap.size) args s 0 0 (AA X 0 s.heap.size)) 4 M 33 [] [] := by
      intro e_2 hre
      have he := hr2 e_2 hre
      refine z_iconst (v := 0) S dX5_anyTooMany_33 (by decide) ?_
      exact z_zret0 S (⟨Option.some.inj he, rfl⟩) dX5_anyTooMany_34
    exact loopZ (Zh := (fun a_2 => Z X 0 p l e rm_X5_anyTooMany s m args below meth c 0 0 (MQ below (QI X 0 (bI r) M s.heap.size) args s 0 0 (AA X 0 s.heap.size)) 4 M 4 [(0, .ref (X.2.2 87)), (1, .int a1), (3, .int a_2)] [])) (fun a_2 x hb hc hr9 => p_X5_anyTooMany_L4 S  hb hc (fun b hxe => hX b (hr9 _ hxe).symm) (fun v hxv => Option.some.inj (hr1 v (hr9 _ hxv).symm))) FU _ hl
set_option maxRecDepth 100000 in
set_option maxHeartbeats 4000000 in
theorem p_X5_mostAtOnce_L4 {X : Cx} {p : Program} {l : Launch} {e : Env} {s : State} {m : MethodId} {args : Array Value} {below : List Frame} {meth : Method} {c : Code} (S : SB X 0 p s m args meth c cX5_mostAtOnce 4 (some .int) RX5) {M : Mm} {r : Int32} {v1 : Int32} {v2 : Int32} {x : (Int32 × Int32) ⊕ Int32}  (he : f_X5_mostAtOnce_L4 M v1 v2 = some x) (hc : ∀ b, x = .inl b → Z X 0 p l e rm_X5_mostAtOnce s m args below meth c 0 0 (MQ below (QI X 0 r M s.heap.size) args s 0 0 (AA X 0 s.heap.size)) 4 M 4 [(0, .ref (X.2.2 87)), (1, .int b.1), (2, .int b.2)] []) (hx : ∀ b, x = .inr b → Z X 0 p l e rm_X5_mostAtOnce s m args below meth c 0 0 (MQ below (QI X 0 r M s.heap.size) args s 0 0 (AA X 0 s.heap.size)) 4 M 35 [(1, .int b)] []) : Z X 0 p l e rm_X5_mostAtOnce s m args below meth c 0 0 (MQ below (QI X 0 r M s.heap.size) args s 0 0 (AA X 0 s.heap.size)) 4 M 4 [(0, .ref (X.2.2 87)), (1, .int v1), (2, .int v2)] [] := by
  unfold f_X5_mostAtOnce_L4 at he
  refine z_iload_n S dX5_mostAtOnce_4 rfl 2 rfl ?_
  refine z_aload_n S dX5_mostAtOnce_5 rfl 0 rfl ?_
  refine z_getI S fo_RX5_28 rfl ok_87 dX5_mostAtOnce_6 ?_
  refine z_icmp_ge (tgt := 35) S he dX5_mostAtOnce_9 (by decide) (fun he => ?_) (fun he => ?_)
  · refine z_lv (ks := [1]) rfl ?_
    exact hx _ (Option.some.inj he).symm
  · refine z_iload_n S dX5_mostAtOnce_12 rfl 1 rfl ?_
    refine z_iconst (v := 1) S dX5_mostAtOnce_13 (by decide) ?_
    refine z_iload_n S dX5_mostAtOnce_14 rfl 2 rfl ?_
    refine z_ishl S dX5_mostAtOnce_15 ?_
    refine z_ior S dX5_mostAtOnce_16 ?_
    obtain ⟨x1, ex1, he⟩ := bnd he
    rw [Option.some.inj ex1]
    refine z_istore_n (lv' := [(0, .ref (X.2.2 87)), (1, .int v1), (2, .int v2), (3, .int x1)]) S [1, 2, 3, 0] dX5_mostAtOnce_17 rfl (by decide) rfl ?_
    refine z_aload_n S dX5_mostAtOnce_18 rfl 0 rfl ?_
    refine z_iload_n S dX5_mostAtOnce_19 rfl 3 rfl ?_
    refine z_iload_n S dX5_mostAtOnce_20 rfl 2 rfl ?_
    obtain ⟨r2, h9, he⟩ := bnd he
    refine z_cVI (As := [.int x1, .int v2]) S cv_RX5_57 (K_X5_anyTooMany  h9) ok_87 (by decide) (q := (RX5, TX5, 5)) rfl rfl ⟨rfl, rfl⟩ ⟨Nat.le_of_ble_eq_true rfl, Nat.le_of_ble_eq_true rfl⟩ ⟨Nat.le_refl _, Nat.le_refl _⟩ rfl rfl (Nat.le_of_ble_eq_true rfl) dX5_mostAtOnce_21 ?_
    refine z_ifb_ne (tgt := 29) S he dX5_mostAtOnce_24 (by decide) (fun he => ?_) (fun he => ?_)
    · refine z_iinc (v := (v2 + 1)) (lv' := [(0, .ref (X.2.2 87)), (1, .int v1), (2, .int (v2 + 1)), (3, .int x1)]) S [1, 2, 0, 3] 2 dX5_mostAtOnce_29 rfl (by rfl) (by decide) rfl ?_
      refine z_goto (tgt := 4) S dX5_mostAtOnce_32 (by decide) ?_
      refine z_lv (ks := [0, 1, 2]) rfl ?_
      exact hc _ (Option.some.inj he).symm
    · refine z_iload_n S dX5_mostAtOnce_27 rfl 3 rfl ?_
      refine z_istore_n (lv' := [(0, .ref (X.2.2 87)), (1, .int x1), (2, .int v2)]) S [1, 0, 2] dX5_mostAtOnce_28 rfl (by decide) rfl ?_
      refine z_iinc (v := (v2 + 1)) (lv' := [(0, .ref (X.2.2 87)), (1, .int x1), (2, .int (v2 + 1))]) S [1, 2, 0] 2 dX5_mostAtOnce_29 rfl (by rfl) (by decide) rfl ?_
      refine z_goto (tgt := 4) S dX5_mostAtOnce_32 (by decide) ?_
      refine z_lv (ks := [0, 1, 2]) rfl ?_
      exact hc _ (Option.some.inj he).symm
set_option maxRecDepth 100000 in
set_option maxHeartbeats 4000000 in
theorem K_X5_mostAtOnce {X : Cx} {l : Launch} {M : Mm} {r : Int32}  (he : f_X5_mostAtOnce M  = some r) : KI X 0 l yX5_mostAtOnce (wz yX5_mostAtOnce cX5_mostAtOnce 4 (some .int)) rm_X5_mostAtOnce [.ref (X.2.2 87)] M r M := by
  intro sz
  refine K_of (Qc := (fun sz => QI X 0 r M sz)) (own := RX5) (lv0 := [(0, .ref (X.2.2 87))]) (by decide +kernel) rfl (Nat.le_of_ble_eq_true rfl) rfl (fun p e s m args below meth c S => ?_) sz
  · unfold f_X5_mostAtOnce at he
    refine z_iconst (v := 0) S dX5_mostAtOnce_0 (by decide) ?_
    refine z_istore_n (lv' := [(0, .ref (X.2.2 87)), (1, .int 0)]) S [1, 0] dX5_mostAtOnce_1 rfl (by decide) rfl ?_
    refine z_iconst (v := 0) S dX5_mostAtOnce_2 (by decide) ?_
    refine z_istore_n (lv' := [(0, .ref (X.2.2 87)), (1, .int 0), (2, .int 0)]) S [1, 2, 0] dX5_mostAtOnce_3 rfl (by decide) rfl ?_
    obtain ⟨e_3, hl, he⟩ := bnd he
    have hX : Z X 0 p l e rm_X5_mostAtOnce s m args below meth c 0 0 (MQ below (QI X 0 r M s.heap.size) args s 0 0 (AA X 0 s.heap.size)) 4 M 35 [(1, .int e_3)] [] := by
      refine z_iload_n S dX5_mostAtOnce_35 rfl 0 rfl ?_
      exact z_iret S (⟨Option.some.inj he, rfl⟩) dX5_mostAtOnce_36
    exact loopZ (Zh := (fun a_3 => Z X 0 p l e rm_X5_mostAtOnce s m args below meth c 0 0 (MQ below (QI X 0 r M s.heap.size) args s 0 0 (AA X 0 s.heap.size)) 4 M 4 [(0, .ref (X.2.2 87)), (1, .int a_3.1), (2, .int a_3.2)] [])) (fun a_3 x hb hc hr => p_X5_mostAtOnce_L4 S  hb hc (fun b hxe => by rw [hr b hxe]; exact hX)) FU _ hl
set_option maxRecDepth 100000 in
set_option maxHeartbeats 4000000 in
theorem K_X9_most {X : Cx} {l : Launch} {M : Mm} {r : Int32} {N : Mm}  (he : f_X9_most M  = some (r, N)) : KI X 0 l yX9_most (wz yX9_most cX9_most 1 (some .int)) rm_X9_most [.ref (X.2.2 1)] M r N := by
  intro sz
  refine K_of (Qc := (fun sz => QI X 0 r N sz)) (own := RX9) (lv0 := [(0, .ref (X.2.2 1))]) (by decide +kernel) rfl (Nat.le_of_ble_eq_true rfl) rfl (fun p e s m args below meth c S => ?_) sz
  · unfold f_X9_most at he
    refine z_aload_n S dX9_most_0 rfl 0 rfl ?_
    obtain ⟨M1, h9, he⟩ := bnd he
    refine z_cVV (As := []) S cv_RX9_252 (K_X9_pairUp  h9) ok_1 (by decide) (q := (RX9, TX9, 17)) rfl rfl ⟨rfl, rfl⟩ ⟨Nat.le_of_ble_eq_true rfl, Nat.le_of_ble_eq_true rfl⟩ ⟨Nat.le_refl _, Nat.le_refl _⟩ rfl rfl (Nat.le_of_ble_eq_true rfl) dX9_most_1 ?_
    refine z_aload_n S dX9_most_4 rfl 0 rfl ?_
    refine z_getF (j := 87) S fo_RX9_57 86 rfl rfl ok_1 dX9_most_5 ?_
    obtain ⟨r2, h9, he⟩ := bnd he
    refine z_cVI (As := []) S cv_RX9_255 (K_X5_mostAtOnce  h9) ok_87 (by decide) (q := (RX5, TX5, 5)) rfl rfl ⟨rfl, rfl⟩ ⟨Nat.le_of_ble_eq_true rfl, Nat.le_of_ble_eq_true rfl⟩ ⟨Nat.le_refl _, Nat.le_refl _⟩ rfl rfl (Nat.le_of_ble_eq_true rfl) dX9_most_8 ?_
    exact z_iret S (Prod.mk.inj (Option.some.inj he)) dX9_most_11
set_option maxRecDepth 100000 in
set_option maxHeartbeats 4000000 in
theorem p_X10_bits_L4 {X : Cx} {p : Program} {l : Launch} {e : Env} {s : State} {m : MethodId} {args : Array Value} {below : List Frame} {meth : Method} {c : Code} (S : SB X 1 p s m args meth c cX10_bits 3 (some .int) RX10) {M : Mm} {r : Int32} {v0 : Int32} {v1 : Int32} {v2 : Int32} {x : (Int32 × Int32) ⊕ Int32}  (he : f_X10_bits_L4 M v0 v1 v2 = some x) (hc : ∀ b, x = .inl b → Z X 1 p l e rm_X10_bits s m args below meth c 0 0 (MQ below (QI X 1 r M s.heap.size) args s 0 0 (AA X 1 s.heap.size)) 3 M 4 [(0, .int v0), (1, .int b.1), (2, .int b.2)] []) (hx : ∀ b, x = .inr b → Z X 1 p l e rm_X10_bits s m args below meth c 0 0 (MQ below (QI X 1 r M s.heap.size) args s 0 0 (AA X 1 s.heap.size)) 3 M 24 [(1, .int b)] []) : Z X 1 p l e rm_X10_bits s m args below meth c 0 0 (MQ below (QI X 1 r M s.heap.size) args s 0 0 (AA X 1 s.heap.size)) 3 M 4 [(0, .int v0), (1, .int v1), (2, .int v2)] [] := by
  unfold f_X10_bits_L4 at he
  refine z_iload_n S dX10_bits_4 rfl 2 rfl ?_
  refine z_bipush (v := 31) S dX10_bits_5 (by decide) ?_
  refine z_icmp_ge (tgt := 24) S he dX10_bits_7 (by decide) (fun he => ?_) (fun he => ?_)
  · refine z_lv (ks := [1]) rfl ?_
    exact hx _ (Option.some.inj he).symm
  · refine z_iload_n S dX10_bits_10 rfl 1 rfl ?_
    refine z_iload_n S dX10_bits_11 rfl 0 rfl ?_
    refine z_iload_n S dX10_bits_12 rfl 2 rfl ?_
    refine z_ishr S dX10_bits_13 ?_
    refine z_iconst (v := 1) S dX10_bits_14 (by decide) ?_
    refine z_iand S dX10_bits_15 ?_
    refine z_iadd S dX10_bits_16 ?_
    obtain ⟨x1, ex1, he⟩ := bnd he
    rw [Option.some.inj ex1]
    refine z_istore_n (lv' := [(0, .int v0), (1, .int x1), (2, .int v2)]) S [1, 0, 2] dX10_bits_17 rfl (by decide) rfl ?_
    refine z_iinc (v := (v2 + 1)) (lv' := [(0, .int v0), (1, .int x1), (2, .int (v2 + 1))]) S [1, 2, 0] 2 dX10_bits_18 rfl (by rfl) (by decide) rfl ?_
    refine z_goto (tgt := 4) S dX10_bits_21 (by decide) ?_
    refine z_lv (ks := [0, 1, 2]) rfl ?_
    exact hc _ (Option.some.inj he).symm
set_option maxRecDepth 100000 in
set_option maxHeartbeats 4000000 in
theorem K_X10_bits {X : Cx} {l : Launch} {M : Mm} {a0 : Int32} {r : Int32}  (he : f_X10_bits M a0 = some r) : KI X 1 l yX10_bits (wz yX10_bits cX10_bits 3 (some .int)) rm_X10_bits [.int a0] M r M := by
  intro sz
  refine K_of (Qc := (fun sz => QI X 1 r M sz)) (own := RX10) (lv0 := [(0, .int a0)]) (by decide +kernel) rfl (Nat.le_of_ble_eq_true rfl) rfl (fun p e s m args below meth c S => ?_) sz
  · unfold f_X10_bits at he
    refine z_iconst (v := 0) S dX10_bits_0 (by decide) ?_
    refine z_istore_n (lv' := [(0, .int a0), (1, .int 0)]) S [1, 0] dX10_bits_1 rfl (by decide) rfl ?_
    refine z_iconst (v := 0) S dX10_bits_2 (by decide) ?_
    refine z_istore_n (lv' := [(0, .int a0), (1, .int 0), (2, .int 0)]) S [1, 2, 0] dX10_bits_3 rfl (by decide) rfl ?_
    obtain ⟨e_2, hl, he⟩ := bnd he
    have hX : Z X 1 p l e rm_X10_bits s m args below meth c 0 0 (MQ below (QI X 1 r M s.heap.size) args s 0 0 (AA X 1 s.heap.size)) 3 M 24 [(1, .int e_2)] [] := by
      refine z_iload_n S dX10_bits_24 rfl 0 rfl ?_
      exact z_iret S (⟨Option.some.inj he, rfl⟩) dX10_bits_25
    exact loopZ (Zh := (fun a_2 => Z X 1 p l e rm_X10_bits s m args below meth c 0 0 (MQ below (QI X 1 r M s.heap.size) args s 0 0 (AA X 1 s.heap.size)) 3 M 4 [(0, .int a0), (1, .int a_2.1), (2, .int a_2.2)] [])) (fun a_2 x hb hc hr => p_X10_bits_L4 S  hb hc (fun b hxe => by rw [hr b hxe]; exact hX)) FU _ hl
set_option maxRecDepth 100000 in
set_option maxHeartbeats 4000000 in
theorem p_X10_stepsOn_J2_54 {X : Cx} {p : Program} {l : Launch} {e : Env} {s : State} {m : MethodId} {args : Array Value} {below : List Frame} {meth : Method} {c : Code} (S : SB X 1 p s m args meth c cX10_stepsOn 7 (some .int) RX10) {M : Mm} {N : Mm} {r : Int32} {v1 : Int32} {v2 : Int32} {t0 : Int32} {t1 : Int32} {x : (Mm × Int32) ⊕ Mm}  (he : f_X10_stepsOn_J2_54 M v1 v2 t0 t1 = some x) (hc : ∀ b, x = .inl b → Z X 1 p l e rm_X10_stepsOn s m args below meth c 0 0 (MQ below (QI X 1 r N s.heap.size) args s 0 0 (AA X 1 s.heap.size)) 7 b.1 2 [(0, .ref (X.2.2 200)), (1, .int v1), (2, .int b.2)] []) (hx : ∀ b, x = .inr b → Z X 1 p l e rm_X10_stepsOn s m args below meth c 0 0 (MQ below (QI X 1 r N s.heap.size) args s 0 0 (AA X 1 s.heap.size)) 7 b 68 [(0, .ref (X.2.2 200)), (1, .int v1)] []) : Z X 1 p l e rm_X10_stepsOn s m args below meth c 0 0 (MQ below (QI X 1 r N s.heap.size) args s 0 0 (AA X 1 s.heap.size)) 7 M 54 [(0, .ref (X.2.2 200)), (1, .int v1), (2, .int v2)] [.int t0, .int t1, .ref (X.2.2 214)] := by
  unfold f_X10_stepsOn_J2_54 at he
  refine z_iastb S ok_214 rfl he dX10_stepsOn_54 (fun M1 he => ?_)
  refine z_aload_n S dX10_stepsOn_55 rfl 0 rfl ?_
  refine z_getF (j := 215) S fo_RX10_56 15 rfl rfl ok_200 dX10_stepsOn_56 ?_
  refine z_iload_n S dX10_stepsOn_59 rfl 2 rfl ?_
  refine z_iconst (v := (-1)) S dX10_stepsOn_60 (by decide) ?_
  refine z_iastb S ok_215 rfl he dX10_stepsOn_61 (fun M2 he => ?_)
  refine z_iinc (v := (v2 + 1)) (lv' := [(0, .ref (X.2.2 200)), (1, .int v1), (2, .int (v2 + 1))]) S [1, 2, 0] 2 dX10_stepsOn_62 rfl (by rfl) (by decide) rfl ?_
  refine z_goto (tgt := 2) S dX10_stepsOn_65 (by decide) ?_
  refine z_lv (ks := [0, 1, 2]) rfl ?_
  exact hc _ (Option.some.inj he).symm
set_option maxRecDepth 100000 in
set_option maxHeartbeats 4000000 in
theorem p_X10_stepsOn_J2_51 {X : Cx} {p : Program} {l : Launch} {e : Env} {s : State} {m : MethodId} {args : Array Value} {below : List Frame} {meth : Method} {c : Code} (S : SB X 1 p s m args meth c cX10_stepsOn 7 (some .int) RX10) {M : Mm} {N : Mm} {r : Int32} {v1 : Int32} {v2 : Int32} {t0 : Int32} {x : (Mm × Int32) ⊕ Mm}  (he : f_X10_stepsOn_J2_51 M v1 v2 t0 = some x) (hc : ∀ b, x = .inl b → Z X 1 p l e rm_X10_stepsOn s m args below meth c 0 0 (MQ below (QI X 1 r N s.heap.size) args s 0 0 (AA X 1 s.heap.size)) 7 b.1 2 [(0, .ref (X.2.2 200)), (1, .int v1), (2, .int b.2)] []) (hx : ∀ b, x = .inr b → Z X 1 p l e rm_X10_stepsOn s m args below meth c 0 0 (MQ below (QI X 1 r N s.heap.size) args s 0 0 (AA X 1 s.heap.size)) 7 b 68 [(0, .ref (X.2.2 200)), (1, .int v1)] []) : Z X 1 p l e rm_X10_stepsOn s m args below meth c 0 0 (MQ below (QI X 1 r N s.heap.size) args s 0 0 (AA X 1 s.heap.size)) 7 M 51 [(0, .ref (X.2.2 200)), (1, .int v1), (2, .int v2)] [.int t0, .ref (X.2.2 214)] := by
  unfold f_X10_stepsOn_J2_51 at he
  refine z_ldcw (v := (-2000000000)) S kc_RX10_330 dX10_stepsOn_51 ?_
  exact p_X10_stepsOn_J2_54 S  he hc hx
set_option maxRecDepth 100000 in
set_option maxHeartbeats 4000000 in
theorem p_X10_stepsOn_L2 {X : Cx} {p : Program} {l : Launch} {e : Env} {s : State} {m : MethodId} {args : Array Value} {below : List Frame} {meth : Method} {c : Code} (S : SB X 1 p s m args meth c cX10_stepsOn 7 (some .int) RX10) {M : Mm} {N : Mm} {r : Int32} {v1 : Int32} {v2 : Int32} {x : (Mm × Int32) ⊕ Mm}  (he : f_X10_stepsOn_L2 M v1 v2 = some x) (hc : ∀ b, x = .inl b → Z X 1 p l e rm_X10_stepsOn s m args below meth c 0 0 (MQ below (QI X 1 r N s.heap.size) args s 0 0 (AA X 1 s.heap.size)) 7 b.1 2 [(0, .ref (X.2.2 200)), (1, .int v1), (2, .int b.2)] []) (hx : ∀ b, x = .inr b → Z X 1 p l e rm_X10_stepsOn s m args below meth c 0 0 (MQ below (QI X 1 r N s.heap.size) args s 0 0 (AA X 1 s.heap.size)) 7 b 68 [(0, .ref (X.2.2 200)), (1, .int v1)] []) : Z X 1 p l e rm_X10_stepsOn s m args below meth c 0 0 (MQ below (QI X 1 r N s.heap.size) args s 0 0 (AA X 1 s.heap.size)) 7 M 2 [(0, .ref (X.2.2 200)), (1, .int v1), (2, .int v2)] [] := by
  unfold f_X10_stepsOn_L2 at he
  refine z_iload_n S dX10_stepsOn_2 rfl 2 rfl ?_
  refine z_bipush (v := 19) S dX10_stepsOn_3 (by decide) ?_
  refine z_icmp_ge (tgt := 68) S he dX10_stepsOn_5 (by decide) (fun he => ?_) (fun he => ?_)
  · refine z_lv (ks := [0, 1]) rfl ?_
    exact hx _ (Option.some.inj he).symm
  · refine z_aload_n S dX10_stepsOn_8 rfl 0 rfl ?_
    refine z_getF (j := 214) S fo_RX10_53 14 rfl rfl ok_200 dX10_stepsOn_9 ?_
    refine z_iload_n S dX10_stepsOn_12 rfl 2 rfl ?_
    refine z_iload_n S dX10_stepsOn_13 rfl 2 rfl ?_
    refine z_bipush (v := 9) S dX10_stepsOn_14 (by decide) ?_
    refine z_iload_n S dX10_stepsOn_16 rfl 1 rfl ?_
    refine z_iadd S dX10_stepsOn_17 ?_
    refine z_icmp_lt (tgt := 51) S he dX10_stepsOn_18 (by decide) (fun he => ?_) (fun he => ?_)
    · exact p_X10_stepsOn_J2_51 S  he hc hx
    · refine z_iload_n S dX10_stepsOn_21 rfl 2 rfl ?_
      refine z_bipush (v := 9) S dX10_stepsOn_22 (by decide) ?_
      refine z_aload_n S dX10_stepsOn_24 rfl 0 rfl ?_
      refine z_getF (j := 201) S fo_RX10_7 1 rfl rfl ok_200 dX10_stepsOn_25 ?_
      refine z_iconst (v := 4) S dX10_stepsOn_28 (by decide) ?_
      refine z_iald S ok_201 rfl he dX10_stepsOn_29 (fun he => ?_)
      refine z_iadd S dX10_stepsOn_30 ?_
      refine z_icmp_ge (tgt := 51) S he dX10_stepsOn_31 (by decide) (fun he => ?_) (fun he => ?_)
      · exact p_X10_stepsOn_J2_51 S  he hc hx
      · refine z_aload_n S dX10_stepsOn_34 rfl 0 rfl ?_
        refine z_getF (j := 211) S fo_RX10_44 11 rfl rfl ok_200 dX10_stepsOn_35 ?_
        refine z_iload_n S dX10_stepsOn_38 rfl 2 rfl ?_
        refine z_bipush (v := 9) S dX10_stepsOn_39 (by decide) ?_
        refine z_isub S dX10_stepsOn_41 ?_
        refine z_iald S ok_211 rfl he dX10_stepsOn_42 (fun he => ?_)
        refine z_iconst (v := (-1)) S dX10_stepsOn_43 (by decide) ?_
        refine z_icmp_ne (tgt := 51) S he dX10_stepsOn_44 (by decide) (fun he => ?_) (fun he => ?_)
        · exact p_X10_stepsOn_J2_51 S  he hc hx
        · refine z_iconst (v := 0) S dX10_stepsOn_47 (by decide) ?_
          refine z_goto (tgt := 54) S dX10_stepsOn_48 (by decide) ?_
          exact p_X10_stepsOn_J2_54 S  he hc hx
set_option maxRecDepth 100000 in
set_option maxHeartbeats 4000000 in
theorem p_X10_stepsOn_J91_208 {X : Cx} {p : Program} {l : Launch} {e : Env} {s : State} {m : MethodId} {args : Array Value} {below : List Frame} {meth : Method} {c : Code} (S : SB X 1 p s m args meth c cX10_stepsOn 7 (some .int) RX10) {M : Mm} {N : Mm} {r : Int32} {v1 : Int32} {v2 : Int32} {v3 : Int32} {v4 : Int32} {v5 : Int32} {x : (Mm × Int32) ⊕ Mm}  (he : f_X10_stepsOn_J91_208 M v1 v2 v3 v4 v5 = some x) (hc : ∀ b, x = .inl b → Z X 1 p l e rm_X10_stepsOn s m args below meth c 0 0 (MQ below (QI X 1 r N s.heap.size) args s 0 0 (AA X 1 s.heap.size)) 7 b.1 91 [(0, .ref (X.2.2 200)), (1, .int v1), (2, .int v2), (3, .int v3), (4, .int b.2)] []) (hx : ∀ b, x = .inr b → Z X 1 p l e rm_X10_stepsOn s m args below meth c 0 0 (MQ below (QI X 1 r N s.heap.size) args s 0 0 (AA X 1 s.heap.size)) 7 b 290 [(0, .ref (X.2.2 200)), (1, .int v1), (2, .int v2), (3, .int v3)] []) : Z X 1 p l e rm_X10_stepsOn s m args below meth c 0 0 (MQ below (QI X 1 r N s.heap.size) args s 0 0 (AA X 1 s.heap.size)) 7 M 208 [(0, .ref (X.2.2 200)), (1, .int v1), (2, .int v2), (3, .int v3), (4, .int v4), (5, .int v5)] [] := by
  unfold f_X10_stepsOn_J91_208 at he
  refine z_aload_n S dX10_stepsOn_208 rfl 0 rfl ?_
  refine z_getF (j := 211) S fo_RX10_44 11 rfl rfl ok_200 dX10_stepsOn_209 ?_
  refine z_iload_n S dX10_stepsOn_212 rfl 3 rfl ?_
  refine z_iald S ok_211 rfl he dX10_stepsOn_213 (fun he => ?_)
  refine z_iload S dX10_stepsOn_214 4 rfl ?_
  refine z_icmp_ne (tgt := 284) S he dX10_stepsOn_216 (by decide) (fun he => ?_) (fun he => ?_)
  · refine z_iinc (v := (v4 + 1)) (lv' := [(0, .ref (X.2.2 200)), (1, .int v1), (2, .int v2), (3, .int v3), (4, .int (v4 + 1)), (5, .int v5)]) S [1, 2, 3, 4, 0, 5] 4 dX10_stepsOn_284 rfl (by rfl) (by decide) rfl ?_
    refine z_goto (tgt := 91) S dX10_stepsOn_287 (by decide) ?_
    refine z_lv (ks := [0, 1, 2, 3, 4]) rfl ?_
    exact hc _ (Option.some.inj he).symm
  · refine z_aload_n S dX10_stepsOn_219 rfl 0 rfl ?_
    refine z_getF (j := 214) S fo_RX10_53 14 rfl rfl ok_200 dX10_stepsOn_220 ?_
    refine z_iload S dX10_stepsOn_223 4 rfl ?_
    refine z_iald S ok_214 rfl he dX10_stepsOn_225 (fun he => ?_)
    refine z_ldcw (v := (-2000000000)) S kc_RX10_330 dX10_stepsOn_226 ?_
    refine z_icmp_le (tgt := 284) S he dX10_stepsOn_229 (by decide) (fun he => ?_) (fun he => ?_)
    · refine z_iinc (v := (v4 + 1)) (lv' := [(0, .ref (X.2.2 200)), (1, .int v1), (2, .int v2), (3, .int v3), (4, .int (v4 + 1)), (5, .int v5)]) S [1, 2, 3, 4, 0, 5] 4 dX10_stepsOn_284 rfl (by rfl) (by decide) rfl ?_
      refine z_goto (tgt := 91) S dX10_stepsOn_287 (by decide) ?_
      refine z_lv (ks := [0, 1, 2, 3, 4]) rfl ?_
      exact hc _ (Option.some.inj he).symm
    · refine z_aload_n S dX10_stepsOn_232 rfl 0 rfl ?_
      refine z_getF (j := 214) S fo_RX10_53 14 rfl rfl ok_200 dX10_stepsOn_233 ?_
      refine z_iload S dX10_stepsOn_236 4 rfl ?_
      refine z_iald S ok_214 rfl he dX10_stepsOn_238 (fun he => ?_)
      refine z_iload S dX10_stepsOn_239 5 rfl ?_
      refine z_isub S dX10_stepsOn_241 ?_
      refine z_aload_n S dX10_stepsOn_242 rfl 0 rfl ?_
      refine z_getF (j := 214) S fo_RX10_53 14 rfl rfl ok_200 dX10_stepsOn_243 ?_
      refine z_bipush (v := 9) S dX10_stepsOn_246 (by decide) ?_
      refine z_iload_n S dX10_stepsOn_248 rfl 3 rfl ?_
      refine z_iadd S dX10_stepsOn_249 ?_
      refine z_iald S ok_214 rfl he dX10_stepsOn_250 (fun he => ?_)
      refine z_icmp_le (tgt := 284) S he dX10_stepsOn_251 (by decide) (fun he => ?_) (fun he => ?_)
      · refine z_iinc (v := (v4 + 1)) (lv' := [(0, .ref (X.2.2 200)), (1, .int v1), (2, .int v2), (3, .int v3), (4, .int (v4 + 1)), (5, .int v5)]) S [1, 2, 3, 4, 0, 5] 4 dX10_stepsOn_284 rfl (by rfl) (by decide) rfl ?_
        refine z_goto (tgt := 91) S dX10_stepsOn_287 (by decide) ?_
        refine z_lv (ks := [0, 1, 2, 3, 4]) rfl ?_
        exact hc _ (Option.some.inj he).symm
      · refine z_aload_n S dX10_stepsOn_254 rfl 0 rfl ?_
        refine z_getF (j := 214) S fo_RX10_53 14 rfl rfl ok_200 dX10_stepsOn_255 ?_
        refine z_bipush (v := 9) S dX10_stepsOn_258 (by decide) ?_
        refine z_iload_n S dX10_stepsOn_260 rfl 3 rfl ?_
        refine z_iadd S dX10_stepsOn_261 ?_
        refine z_aload_n S dX10_stepsOn_262 rfl 0 rfl ?_
        refine z_getF (j := 214) S fo_RX10_53 14 rfl rfl ok_200 dX10_stepsOn_263 ?_
        refine z_iload S dX10_stepsOn_266 4 rfl ?_
        refine z_iald S ok_214 rfl he dX10_stepsOn_268 (fun he => ?_)
        refine z_iload S dX10_stepsOn_269 5 rfl ?_
        refine z_isub S dX10_stepsOn_271 ?_
        refine z_iastb S ok_214 rfl he dX10_stepsOn_272 (fun M5 he => ?_)
        refine z_aload_n S dX10_stepsOn_273 rfl 0 rfl ?_
        refine z_getF (j := 215) S fo_RX10_56 15 rfl rfl ok_200 dX10_stepsOn_274 ?_
        refine z_bipush (v := 9) S dX10_stepsOn_277 (by decide) ?_
        refine z_iload_n S dX10_stepsOn_279 rfl 3 rfl ?_
        refine z_iadd S dX10_stepsOn_280 ?_
        refine z_iload S dX10_stepsOn_281 4 rfl ?_
        refine z_iastb S ok_215 rfl he dX10_stepsOn_283 (fun M6 he => ?_)
        refine z_iinc (v := (v4 + 1)) (lv' := [(0, .ref (X.2.2 200)), (1, .int v1), (2, .int v2), (3, .int v3), (4, .int (v4 + 1)), (5, .int v5)]) S [1, 2, 3, 4, 0, 5] 4 dX10_stepsOn_284 rfl (by rfl) (by decide) rfl ?_
        refine z_goto (tgt := 91) S dX10_stepsOn_287 (by decide) ?_
        refine z_lv (ks := [0, 1, 2, 3, 4]) rfl ?_
        exact hc _ (Option.some.inj he).symm
set_option maxRecDepth 100000 in
set_option maxHeartbeats 4000000 in
theorem p_X10_stepsOn_L91 {X : Cx} {p : Program} {l : Launch} {e : Env} {s : State} {m : MethodId} {args : Array Value} {below : List Frame} {meth : Method} {c : Code} (S : SB X 1 p s m args meth c cX10_stepsOn 7 (some .int) RX10) {M : Mm} {N : Mm} {r : Int32} {v1 : Int32} {v2 : Int32} {v3 : Int32} {v4 : Int32} {x : (Mm × Int32) ⊕ Mm}  (he : f_X10_stepsOn_L91 M v1 v2 v3 v4 = some x) (hc : ∀ b, x = .inl b → Z X 1 p l e rm_X10_stepsOn s m args below meth c 0 0 (MQ below (QI X 1 r N s.heap.size) args s 0 0 (AA X 1 s.heap.size)) 7 b.1 91 [(0, .ref (X.2.2 200)), (1, .int v1), (2, .int v2), (3, .int v3), (4, .int b.2)] []) (hx : ∀ b, x = .inr b → Z X 1 p l e rm_X10_stepsOn s m args below meth c 0 0 (MQ below (QI X 1 r N s.heap.size) args s 0 0 (AA X 1 s.heap.size)) 7 b 290 [(0, .ref (X.2.2 200)), (1, .int v1), (2, .int v2), (3, .int v3)] []) : Z X 1 p l e rm_X10_stepsOn s m args below meth c 0 0 (MQ below (QI X 1 r N s.heap.size) args s 0 0 (AA X 1 s.heap.size)) 7 M 91 [(0, .ref (X.2.2 200)), (1, .int v1), (2, .int v2), (3, .int v3), (4, .int v4)] [] := by
  unfold f_X10_stepsOn_L91 at he
  refine z_iload S dX10_stepsOn_91 4 rfl ?_
  refine z_aload_n S dX10_stepsOn_93 rfl 0 rfl ?_
  refine z_getF (j := 201) S fo_RX10_7 1 rfl rfl ok_200 dX10_stepsOn_94 ?_
  refine z_iconst (v := 3) S dX10_stepsOn_97 (by decide) ?_
  refine z_iald S ok_201 rfl he dX10_stepsOn_98 (fun he => ?_)
  refine z_icmp_ge (tgt := 290) S he dX10_stepsOn_99 (by decide) (fun he => ?_) (fun he => ?_)
  · refine z_lv (ks := [0, 1, 2, 3]) rfl ?_
    exact hx _ (Option.some.inj he).symm
  · refine z_aload_n S dX10_stepsOn_102 rfl 0 rfl ?_
    refine z_getF (j := 212) S fo_RX10_47 12 rfl rfl ok_200 dX10_stepsOn_103 ?_
    refine z_iload_n S dX10_stepsOn_106 rfl 3 rfl ?_
    refine z_iald S ok_212 rfl he dX10_stepsOn_107 (fun he => ?_)
    refine z_iload S dX10_stepsOn_108 4 rfl ?_
    refine z_cSI (As := [.int (gA M 212 v3), .int v4]) S cs_RX10_117 (K_X10_isOf  rfl) ⟨rfl, rfl⟩ ⟨Nat.le_of_ble_eq_true rfl, Nat.le_of_ble_eq_true rfl⟩ ⟨Nat.le_refl _, Nat.le_refl _⟩ rfl rfl (Nat.le_of_ble_eq_true rfl) dX10_stepsOn_110 ?_
    refine z_ifb_ne (tgt := 119) S he dX10_stepsOn_113 (by decide) (fun he => ?_) (fun he => ?_)
    · refine z_aload_n S dX10_stepsOn_119 rfl 0 rfl ?_
      refine z_getF (j := 207) S fo_RX10_32 7 rfl rfl ok_200 dX10_stepsOn_120 ?_
      refine z_bipush (v := 10) S dX10_stepsOn_123 (by decide) ?_
      refine z_iload S dX10_stepsOn_125 4 rfl ?_
      refine z_imul S dX10_stepsOn_127 ?_
      refine z_iload_n S dX10_stepsOn_128 rfl 3 rfl ?_
      refine z_iadd S dX10_stepsOn_129 ?_
      refine z_iald S ok_207 rfl he dX10_stepsOn_130 (fun he => ?_)
      obtain ⟨x4, ex4, he⟩ := bnd he
      rw [Option.some.inj ex4]
      refine z_istore (lv' := [(0, .ref (X.2.2 200)), (1, .int v1), (2, .int v2), (3, .int v3), (4, .int v4), (5, .int x4)]) S [1, 2, 3, 4, 5, 0] dX10_stepsOn_131 (by decide) rfl ?_
      refine z_aload_n S dX10_stepsOn_133 rfl 0 rfl ?_
      refine z_getF (j := 211) S fo_RX10_44 11 rfl rfl ok_200 dX10_stepsOn_134 ?_
      refine z_iload_n S dX10_stepsOn_137 rfl 3 rfl ?_
      refine z_iald S ok_211 rfl he dX10_stepsOn_138 (fun he => ?_)
      refine z_iload S dX10_stepsOn_139 4 rfl ?_
      refine z_icmp_eq (tgt := 208) S he dX10_stepsOn_141 (by decide) (fun he => ?_) (fun he => ?_)
      · exact p_X10_stepsOn_J91_208 S  he hc hx
      · refine z_aload_n S dX10_stepsOn_144 rfl 0 rfl ?_
        refine z_getF (j := 214) S fo_RX10_53 14 rfl rfl ok_200 dX10_stepsOn_145 ?_
        refine z_bipush (v := 9) S dX10_stepsOn_148 (by decide) ?_
        refine z_iload_n S dX10_stepsOn_150 rfl 3 rfl ?_
        refine z_iadd S dX10_stepsOn_151 ?_
        refine z_iald S ok_214 rfl he dX10_stepsOn_152 (fun he => ?_)
        refine z_ldcw (v := (-2000000000)) S kc_RX10_330 dX10_stepsOn_153 ?_
        refine z_icmp_le (tgt := 208) S he dX10_stepsOn_156 (by decide) (fun he => ?_) (fun he => ?_)
        · exact p_X10_stepsOn_J91_208 S  he hc hx
        · refine z_aload_n S dX10_stepsOn_159 rfl 0 rfl ?_
          refine z_getF (j := 214) S fo_RX10_53 14 rfl rfl ok_200 dX10_stepsOn_160 ?_
          refine z_bipush (v := 9) S dX10_stepsOn_163 (by decide) ?_
          refine z_iload_n S dX10_stepsOn_165 rfl 3 rfl ?_
          refine z_iadd S dX10_stepsOn_166 ?_
          refine z_iald S ok_214 rfl he dX10_stepsOn_167 (fun he => ?_)
          refine z_iload S dX10_stepsOn_168 5 rfl ?_
          refine z_iadd S dX10_stepsOn_170 ?_
          refine z_aload_n S dX10_stepsOn_171 rfl 0 rfl ?_
          refine z_getF (j := 214) S fo_RX10_53 14 rfl rfl ok_200 dX10_stepsOn_172 ?_
          refine z_iload S dX10_stepsOn_175 4 rfl ?_
          refine z_iald S ok_214 rfl he dX10_stepsOn_177 (fun he => ?_)
          refine z_icmp_le (tgt := 208) S he dX10_stepsOn_178 (by decide) (fun he => ?_) (fun he => ?_)
          · exact p_X10_stepsOn_J91_208 S  he hc hx
          · refine z_aload_n S dX10_stepsOn_181 rfl 0 rfl ?_
            refine z_getF (j := 214) S fo_RX10_53 14 rfl rfl ok_200 dX10_stepsOn_182 ?_
            refine z_iload S dX10_stepsOn_185 4 rfl ?_
            refine z_aload_n S dX10_stepsOn_187 rfl 0 rfl ?_
            refine z_getF (j := 214) S fo_RX10_53 14 rfl rfl ok_200 dX10_stepsOn_188 ?_
            refine z_bipush (v := 9) S dX10_stepsOn_191 (by decide) ?_
            refine z_iload_n S dX10_stepsOn_193 rfl 3 rfl ?_
            refine z_iadd S dX10_stepsOn_194 ?_
            refine z_iald S ok_214 rfl he dX10_stepsOn_195 (fun he => ?_)
            refine z_iload S dX10_stepsOn_196 5 rfl ?_
            refine z_iadd S dX10_stepsOn_198 ?_
            refine z_iastb S ok_214 rfl he dX10_stepsOn_199 (fun M7 he => ?_)
            refine z_aload_n S dX10_stepsOn_200 rfl 0 rfl ?_
            refine z_getF (j := 215) S fo_RX10_56 15 rfl rfl ok_200 dX10_stepsOn_201 ?_
            refine z_iload S dX10_stepsOn_204 4 rfl ?_
            refine z_iload_n S dX10_stepsOn_206 rfl 3 rfl ?_
            refine z_iastb S ok_215 rfl he dX10_stepsOn_207 (fun M8 he => ?_)
            exact p_X10_stepsOn_J91_208 S  he hc hx
    · refine z_goto (tgt := 284) S dX10_stepsOn_116 (by decide) ?_
      refine z_iinc (v := (v4 + 1)) (lv' := [(0, .ref (X.2.2 200)), (1, .int v1), (2, .int v2), (3, .int v3), (4, .int (v4 + 1))]) S [1, 2, 3, 4, 0] 4 dX10_stepsOn_284 rfl (by rfl) (by decide) rfl ?_
      refine z_goto (tgt := 91) S dX10_stepsOn_287 (by decide) ?_
      refine z_lv (ks := [0, 1, 2, 3, 4]) rfl ?_
      exact hc _ (Option.some.inj he).symm
set_option maxRecDepth 100000 in
set_option maxHeartbeats 4000000 in
theorem p_X10_stepsOn_L78 {X : Cx} {p : Program} {l : Launch} {e : Env} {s : State} {m : MethodId} {args : Array Value} {below : List Frame} {meth : Method} {c : Code} (S : SB X 1 p s m args meth c cX10_stepsOn 7 (some .int) RX10) {M : Mm} {N : Mm} {r : Int32} {v1 : Int32} {v2 : Int32} {v3 : Int32} {x : (Mm × Int32) ⊕ Mm}  (he : f_X10_stepsOn_L78 M v1 v2 v3 = some x) (hc : ∀ b, x = .inl b → Z X 1 p l e rm_X10_stepsOn s m args below meth c 0 0 (MQ below (QI X 1 r N s.heap.size) args s 0 0 (AA X 1 s.heap.size)) 7 b.1 78 [(0, .ref (X.2.2 200)), (1, .int v1), (2, .int v2), (3, .int b.2)] []) (hx : ∀ b, x = .inr b → Z X 1 p l e rm_X10_stepsOn s m args below meth c 0 0 (MQ below (QI X 1 r N s.heap.size) args s 0 0 (AA X 1 s.heap.size)) 7 b 296 [(0, .ref (X.2.2 200)), (1, .int v1), (2, .int v2)] []) : Z X 1 p l e rm_X10_stepsOn s m args below meth c 0 0 (MQ below (QI X 1 r N s.heap.size) args s 0 0 (AA X 1 s.heap.size)) 7 M 78 [(0, .ref (X.2.2 200)), (1, .int v1), (2, .int v2), (3, .int v3)] [] := by
  unfold f_X10_stepsOn_L78 at he
  refine z_iload_n S dX10_stepsOn_78 rfl 3 rfl ?_
  refine z_aload_n S dX10_stepsOn_79 rfl 0 rfl ?_
  refine z_getF (j := 201) S fo_RX10_7 1 rfl rfl ok_200 dX10_stepsOn_80 ?_
  refine z_iconst (v := 4) S dX10_stepsOn_83 (by decide) ?_
  refine z_iald S ok_201 rfl he dX10_stepsOn_84 (fun he => ?_)
  refine z_icmp_ge (tgt := 296) S he dX10_stepsOn_85 (by decide) (fun he => ?_) (fun he => ?_)
  · refine z_lv (ks := [0, 1, 2]) rfl ?_
    exact hx _ (Option.some.inj he).symm
  · refine z_iconst (v := 0) S dX10_stepsOn_88 (by decide) ?_
    refine z_istore (lv' := [(0, .ref (X.2.2 200)), (1, .int v1), (2, .int v2), (3, .int v3), (4, .int 0)]) S [1, 2, 3, 4, 0] dX10_stepsOn_89 (by decide) rfl ?_
    obtain ⟨e_9, hl, he⟩ := bnd he
    have hX : Z X 1 p l e rm_X10_stepsOn s m args below meth c 0 0 (MQ below (QI X 1 r N s.heap.size) args s 0 0 (AA X 1 s.heap.size)) 7 e_9 290 [(0, .ref (X.2.2 200)), (1, .int v1), (2, .int v2), (3, .int v3)] [] := by
      refine z_iinc (v := (v3 + 1)) (lv' := [(0, .ref (X.2.2 200)), (1, .int v1), (2, .int v2), (3, .int (v3 + 1))]) S [1, 2, 3, 0] 3 dX10_stepsOn_290 rfl (by rfl) (by decide) rfl ?_
      refine z_goto (tgt := 78) S dX10_stepsOn_293 (by decide) ?_
      refine z_lv (ks := [0, 1, 2, 3]) rfl ?_
      exact hc _ (Option.some.inj he).symm
    exact loopZ (Zh := (fun a_9 => Z X 1 p l e rm_X10_stepsOn s m args below meth c 0 0 (MQ below (QI X 1 r N s.heap.size) args s 0 0 (AA X 1 s.heap.size)) 7 a_9.1 91 [(0, .ref (X.2.2 200)), (1, .int v1), (2, .int v2), (3, .int v3), (4, .int a_9.2)] [])) (fun a_9 x hb hc hr => p_X10_stepsOn_L91 S  hb hc (fun b hxe => by rw [hr b hxe]; exact hX)) FU _ hl
set_option maxRecDepth 100000 in
set_option maxHeartbeats 4000000 in
theorem p_X10_stepsOn_L70 {X : Cx} {p : Program} {l : Launch} {e : Env} {s : State} {m : MethodId} {args : Array Value} {below : List Frame} {meth : Method} {c : Code} (S : SB X 1 p s m args meth c cX10_stepsOn 7 (some .int) RX10) {M : Mm} {N : Mm} {r : Int32} {v1 : Int32} {v2 : Int32} {x : (Mm × Int32) ⊕ Mm}  (he : f_X10_stepsOn_L70 M v1 v2 = some x) (hc : ∀ b, x = .inl b → Z X 1 p l e rm_X10_stepsOn s m args below meth c 0 0 (MQ below (QI X 1 r N s.heap.size) args s 0 0 (AA X 1 s.heap.size)) 7 b.1 70 [(0, .ref (X.2.2 200)), (1, .int v1), (2, .int b.2)] []) (hx : ∀ b, x = .inr b → Z X 1 p l e rm_X10_stepsOn s m args below meth c 0 0 (MQ below (QI X 1 r N s.heap.size) args s 0 0 (AA X 1 s.heap.size)) 7 b 302 [(0, .ref (X.2.2 200))] []) : Z X 1 p l e rm_X10_stepsOn s m args below meth c 0 0 (MQ below (QI X 1 r N s.heap.size) args s 0 0 (AA X 1 s.heap.size)) 7 M 70 [(0, .ref (X.2.2 200)), (1, .int v1), (2, .int v2)] [] := by
  unfold f_X10_stepsOn_L70 at he
  refine z_iload_n S dX10_stepsOn_70 rfl 2 rfl ?_
  refine z_bipush (v := 19) S dX10_stepsOn_71 (by decide) ?_
  refine z_icmp_ge (tgt := 302) S he dX10_stepsOn_73 (by decide) (fun he => ?_) (fun he => ?_)
  · refine z_lv (ks := [0]) rfl ?_
    exact hx _ (Option.some.inj he).symm
  · refine z_iload_n S dX10_stepsOn_76 rfl 1 rfl ?_
    refine z_istore_n (lv' := [(0, .ref (X.2.2 200)), (1, .int v1), (2, .int v2), (3, .int v1)]) S [1, 2, 3, 0] dX10_stepsOn_77 rfl (by decide) rfl ?_
    obtain ⟨e_10, hl, he⟩ := bnd he
    have hX : Z X 1 p l e rm_X10_stepsOn s m args below meth c 0 0 (MQ below (QI X 1 r N s.heap.size) args s 0 0 (AA X 1 s.heap.size)) 7 e_10 296 [(0, .ref (X.2.2 200)), (1, .int v1), (2, .int v2)] [] := by
      refine z_iinc (v := (v2 + 1)) (lv' := [(0, .ref (X.2.2 200)), (1, .int v1), (2, .int (v2 + 1))]) S [1, 2, 0] 2 dX10_stepsOn_296 rfl (by rfl) (by decide) rfl ?_
      refine z_goto (tgt := 70) S dX10_stepsOn_299 (by decide) ?_
      refine z_lv (ks := [0, 1, 2]) rfl ?_
      exact hc _ (Option.some.inj he).symm
    exact loopZ (Zh := (fun a_10 => Z X 1 p l e rm_X10_stepsOn s m args below meth c 0 0 (MQ below (QI X 1 r N s.heap.size) args s 0 0 (AA X 1 s.heap.size)) 7 a_10.1 78 [(0, .ref (X.2.2 200)), (1, .int v1), (2, .int v2), (3, .int a_10.2)] [])) (fun a_10 x hb hc hr => p_X10_stepsOn_L78 S  hb hc (fun b hxe => by rw [hr b hxe]; exact hX)) FU _ hl
set_option maxRecDepth 100000 in
set_option maxHeartbeats 4000000 in
theorem p_X10_stepsOn_L306 {X : Cx} {p : Program} {l : Launch} {e : Env} {s : State} {m : MethodId} {args : Array Value} {below : List Frame} {meth : Method} {c : Code} (S : SB X 1 p s m args meth c cX10_stepsOn 7 (some .int) RX10) {M : Mm} {N : Mm} {r : Int32} {v2 : Int32} {v3 : Int32} {x : (Int32 × Int32) ⊕ Int32}  (he : f_X10_stepsOn_L306 M v2 v3 = some x) (hc : ∀ b, x = .inl b → Z X 1 p l e rm_X10_stepsOn s m args below meth c 0 0 (MQ below (QI X 1 r N s.heap.size) args s 0 0 (AA X 1 s.heap.size)) 7 M 306 [(0, .ref (X.2.2 200)), (2, .int b.1), (3, .int b.2)] []) (hx : ∀ b, x = .inr b → Z X 1 p l e rm_X10_stepsOn s m args below meth c 0 0 (MQ below (QI X 1 r N s.heap.size) args s 0 0 (AA X 1 s.heap.size)) 7 M 368 [(0, .ref (X.2.2 200)), (2, .int b)] []) : Z X 1 p l e rm_X10_stepsOn s m args below meth c 0 0 (MQ below (QI X 1 r N s.heap.size) args s 0 0 (AA X 1 s.heap.size)) 7 M 306 [(0, .ref (X.2.2 200)), (2, .int v2), (3, .int v3)] [] := by
  unfold f_X10_stepsOn_L306 at he
  refine z_iload_n S dX10_stepsOn_306 rfl 2 rfl ?_
  refine z_aload_n S dX10_stepsOn_307 rfl 0 rfl ?_
  refine z_getF (j := 201) S fo_RX10_7 1 rfl rfl ok_200 dX10_stepsOn_308 ?_
  refine z_iconst (v := 3) S dX10_stepsOn_311 (by decide) ?_
  refine z_iald S ok_201 rfl he dX10_stepsOn_312 (fun he => ?_)
  refine z_icmp_ge (tgt := 368) S he dX10_stepsOn_313 (by decide) (fun he => ?_) (fun he => ?_)
  · refine z_lv (ks := [0, 1]) rfl ?_
    exact hx _ (Option.some.inj he).symm
  · refine z_aload_n S dX10_stepsOn_316 rfl 0 rfl ?_
    refine z_getF (j := 214) S fo_RX10_53 14 rfl rfl ok_200 dX10_stepsOn_317 ?_
    refine z_iload_n S dX10_stepsOn_320 rfl 2 rfl ?_
    refine z_iald S ok_214 rfl he dX10_stepsOn_321 (fun he => ?_)
    refine z_if_le (tgt := 362) S he dX10_stepsOn_322 (by decide) (fun he => ?_) (fun he => ?_)
    · refine z_iinc (v := (v3 + 1)) (lv' := [(0, .ref (X.2.2 200)), (2, .int v2), (3, .int (v3 + 1))]) S [1, 2, 0] 2 dX10_stepsOn_362 rfl (by rfl) (by decide) rfl ?_
      refine z_goto (tgt := 306) S dX10_stepsOn_365 (by decide) ?_
      refine z_lv (ks := [0, 1, 2]) rfl ?_
      exact hc _ (Option.some.inj he).symm
    · refine z_aload_n S dX10_stepsOn_325 rfl 0 rfl ?_
      refine z_getF (j := 210) S fo_RX10_41 10 rfl rfl ok_200 dX10_stepsOn_326 ?_
      refine z_iload_n S dX10_stepsOn_329 rfl 2 rfl ?_
      refine z_iald S ok_210 rfl he dX10_stepsOn_330 (fun he => ?_)
      refine z_aload_n S dX10_stepsOn_331 rfl 0 rfl ?_
      refine z_getF (j := 213) S fo_RX10_50 13 rfl rfl ok_200 dX10_stepsOn_332 ?_
      refine z_iload_n S dX10_stepsOn_335 rfl 2 rfl ?_
      refine z_iald S ok_213 rfl he dX10_stepsOn_336 (fun he => ?_)
      refine z_icmp_ge (tgt := 362) S he dX10_stepsOn_337 (by decide) (fun he => ?_) (fun he => ?_)
      · refine z_iinc (v := (v3 + 1)) (lv' := [(0, .ref (X.2.2 200)), (2, .int v2), (3, .int (v3 + 1))]) S [1, 2, 0] 2 dX10_stepsOn_362 rfl (by rfl) (by decide) rfl ?_
        refine z_goto (tgt := 306) S dX10_stepsOn_365 (by decide) ?_
        refine z_lv (ks := [0, 1, 2]) rfl ?_
        exact hc _ (Option.some.inj he).symm
      · refine z_iload_n S dX10_stepsOn_340 rfl 1 rfl ?_
        refine z_iconst (v := (-1)) S dX10_stepsOn_341 (by decide) ?_
        refine z_icmp_eq (tgt := 360) S he dX10_stepsOn_342 (by decide) (fun he => ?_) (fun he => ?_)
        · refine z_iload_n S dX10_stepsOn_360 rfl 2 rfl ?_
          refine z_istore_n (lv' := [(0, .ref (X.2.2 200)), (2, .int v3), (3, .int v3)]) S [1, 0, 2] dX10_stepsOn_361 rfl (by decide) rfl ?_
          refine z_iinc (v := (v3 + 1)) (lv' := [(0, .ref (X.2.2 200)), (2, .int v3), (3, .int (v3 + 1))]) S [1, 2, 0] 2 dX10_stepsOn_362 rfl (by rfl) (by decide) rfl ?_
          refine z_goto (tgt := 306) S dX10_stepsOn_365 (by decide) ?_
          refine z_lv (ks := [0, 1, 2]) rfl ?_
          exact hc _ (Option.some.inj he).symm
        · refine z_aload_n S dX10_stepsOn_345 rfl 0 rfl ?_
          refine z_getF (j := 214) S fo_RX10_53 14 rfl rfl ok_200 dX10_stepsOn_346 ?_
          refine z_iload_n S dX10_stepsOn_349 rfl 2 rfl ?_
          refine z_iald S ok_214 rfl he dX10_stepsOn_350 (fun he => ?_)
          refine z_aload_n S dX10_stepsOn_351 rfl 0 rfl ?_
          refine z_getF (j := 214) S fo_RX10_53 14 rfl rfl ok_200 dX10_stepsOn_352 ?_
          refine z_iload_n S dX10_stepsOn_355 rfl 1 rfl ?_
          refine z_iald S ok_214 rfl he dX10_stepsOn_356 (fun he => ?_)
          refine z_icmp_le (tgt := 362) S he dX10_stepsOn_357 (by decide) (fun he => ?_) (fun he => ?_)
          · refine z_iinc (v := (v3 + 1)) (lv' := [(0, .ref (X.2.2 200)), (2, .int v2), (3, .int (v3 + 1))]) S [1, 2, 0] 2 dX10_stepsOn_362 rfl (by rfl) (by decide) rfl ?_
            refine z_goto (tgt := 306) S dX10_stepsOn_365 (by decide) ?_
            refine z_lv (ks := [0, 1, 2]) rfl ?_
            exact hc _ (Option.some.inj he).symm
          · refine z_iload_n S dX10_stepsOn_360 rfl 2 rfl ?_
            refine z_istore_n (lv' := [(0, .ref (X.2.2 200)), (2, .int v3), (3, .int v3)]) S [1, 0, 2] dX10_stepsOn_361 rfl (by decide) rfl ?_
            refine z_iinc (v := (v3 + 1)) (lv' := [(0, .ref (X.2.2 200)), (2, .int v3), (3, .int (v3 + 1))]) S [1, 2, 0] 2 dX10_stepsOn_362 rfl (by rfl) (by decide) rfl ?_
            refine z_goto (tgt := 306) S dX10_stepsOn_365 (by decide) ?_
            refine z_lv (ks := [0, 1, 2]) rfl ?_
            exact hc _ (Option.some.inj he).symm
set_option maxRecDepth 100000 in
set_option maxHeartbeats 4000000 in
theorem p_X10_stepsOn_L395 {X : Cx} {p : Program} {l : Launch} {e : Env} {s : State} {m : MethodId} {args : Array Value} {below : List Frame} {meth : Method} {c : Code} (S : SB X 1 p s m args meth c cX10_stepsOn 7 (some .int) RX10) {M : Mm} {N : Mm} {r : Int32} {v3 : Int32} {v4 : Int32} {x : (Mm × Int32) ⊕ Mm}  (he : f_X10_stepsOn_L395 M v3 v4 = some x) (hc : ∀ b, x = .inl b → Z X 1 p l e rm_X10_stepsOn s m args below meth c 0 0 (MQ below (QI X 1 r N s.heap.size) args s 0 0 (AA X 1 s.heap.size)) 7 b.1 395 [(0, .ref (X.2.2 200)), (3, .int v3), (4, .int b.2)] []) (hx : ∀ b, x = .inr b → Z X 1 p l e rm_X10_stepsOn s m args below meth c 0 0 (MQ below (QI X 1 r N s.heap.size) args s 0 0 (AA X 1 s.heap.size)) 7 b 435 [(3, .int v3)] []) : Z X 1 p l e rm_X10_stepsOn s m args below meth c 0 0 (MQ below (QI X 1 r N s.heap.size) args s 0 0 (AA X 1 s.heap.size)) 7 M 395 [(0, .ref (X.2.2 200)), (3, .int v3), (4, .int v4)] [] := by
  unfold f_X10_stepsOn_L395 at he
  refine z_iload S dX10_stepsOn_395 2 rfl ?_
  refine z_iconst (v := (-1)) S dX10_stepsOn_397 (by decide) ?_
  refine z_icmp_eq (tgt := 435) S he dX10_stepsOn_398 (by decide) (fun he => ?_) (fun he => ?_)
  · refine z_lv (ks := [1]) rfl ?_
    exact hx _ (Option.some.inj he).symm
  · refine z_aload_n S dX10_stepsOn_401 rfl 0 rfl ?_
    refine z_getF (j := 215) S fo_RX10_56 15 rfl rfl ok_200 dX10_stepsOn_402 ?_
    refine z_iload S dX10_stepsOn_405 2 rfl ?_
    refine z_iald S ok_215 rfl he dX10_stepsOn_407 (fun he => ?_)
    refine z_istore (lv' := [(0, .ref (X.2.2 200)), (3, .int v3), (4, .int v4), (5, .int (gA M 215 v4))]) S [1, 2, 3, 0] dX10_stepsOn_408 (by decide) rfl ?_
    refine z_aload_n S dX10_stepsOn_410 rfl 0 rfl ?_
    refine z_getF (j := 211) S fo_RX10_44 11 rfl rfl ok_200 dX10_stepsOn_411 ?_
    refine z_iload S dX10_stepsOn_414 3 rfl ?_
    refine z_iald S ok_211 rfl he dX10_stepsOn_416 (fun he => ?_)
    refine z_istore (lv' := [(0, .ref (X.2.2 200)), (3, .int v3), (4, .int v4), (5, .int (gA M 215 v4)), (6, .int (gA M 211 (gA M 215 v4)))]) S [1, 2, 3, 4, 0] dX10_stepsOn_417 (by decide) rfl ?_
    refine z_aload_n S dX10_stepsOn_419 rfl 0 rfl ?_
    refine z_getF (j := 211) S fo_RX10_44 11 rfl rfl ok_200 dX10_stepsOn_420 ?_
    refine z_iload S dX10_stepsOn_423 3 rfl ?_
    refine z_iload S dX10_stepsOn_425 2 rfl ?_
    refine z_iastb S ok_211 rfl he dX10_stepsOn_427 (fun M14 he => ?_)
    refine z_iload S dX10_stepsOn_428 4 rfl ?_
    refine z_istore (lv' := [(0, .ref (X.2.2 200)), (3, .int v3), (4, .int (gA M 211 (gA M 215 v4)))]) S [1, 2, 0] dX10_stepsOn_430 (by decide) rfl ?_
    refine z_goto (tgt := 395) S dX10_stepsOn_432 (by decide) ?_
    refine z_lv (ks := [0, 1, 2]) rfl ?_
    exact hc _ (Option.some.inj he).symm
set_option maxRecDepth 100000 in
set_option maxHeartbeats 4000000 in
theorem K_X10_stepsOn {X : Cx} {l : Launch} {M : Mm} {a1 : Int32} {r : Int32} {N : Mm}  (he : f_X10_stepsOn M a1 = some (r, N)) : KI X 1 l yX10_stepsOn (wz yX10_stepsOn cX10_stepsOn 7 (some .int)) rm_X10_stepsOn [.ref (X.2.2 200), .int a1] M r N := by
  intro sz
  refine K_of (Qc := (fun sz => QI X 1 r N sz)) (own := RX10) (lv0 := [(0, .ref (X.2.2 200)), (1, .int a1)]) (by decide +kernel) rfl (Nat.le_of_ble_eq_true rfl) rfl (fun p e s m args below meth c S => ?_) sz
  · unfold f_X10_stepsOn at he
    refine z_iconst (v := 0) S dX10_stepsOn_0 (by decide) ?_
    refine z_istore_n (lv' := [(0, .ref (X.2.2 200)), (1, .int a1), (2, .int 0)]) S [1, 2, 0] dX10_stepsOn_1 rfl (by decide) rfl ?_
    obtain ⟨e_3, hl, he⟩ := bnd he
    have hX : Z X 1 p l e rm_X10_stepsOn s m args below meth c 0 0 (MQ below (QI X 1 r N s.heap.size) args s 0 0 (AA X 1 s.heap.size)) 7 e_3 68 [(0, .ref (X.2.2 200)), (1, .int a1)] [] := by
      refine z_iconst (v := 0) S dX10_stepsOn_68 (by decide) ?_
      refine z_istore_n (lv' := [(0, .ref (X.2.2 200)), (1, .int a1), (2, .int 0)]) S [1, 2, 0] dX10_stepsOn_69 rfl (by decide) rfl ?_
      obtain ⟨e_11, hl, he⟩ := bnd he
      have hX : Z X 1 p l e rm_X10_stepsOn s m args below meth c 0 0 (MQ below (QI X 1 r N s.heap.size) args s 0 0 (AA X 1 s.heap.size)) 7 e_11 302 [(0, .ref (X.2.2 200))] [] := by
        refine z_iconst (v := (-1)) S dX10_stepsOn_302 (by decide) ?_
        refine z_istore_n (lv' := [(0, .ref (X.2.2 200)), (2, .int (-1))]) S [1, 0] dX10_stepsOn_303 rfl (by decide) rfl ?_
        refine z_iconst (v := 0) S dX10_stepsOn_304 (by decide) ?_
        refine z_istore_n (lv' := [(0, .ref (X.2.2 200)), (2, .int (-1)), (3, .int 0)]) S [1, 2, 0] dX10_stepsOn_305 rfl (by decide) rfl ?_
        obtain ⟨e_12, hl, he⟩ := bnd he
        have hX : Z X 1 p l e rm_X10_stepsOn s m args below meth c 0 0 (MQ below (QI X 1 r N s.heap.size) args s 0 0 (AA X 1 s.heap.size)) 7 e_11 368 [(0, .ref (X.2.2 200)), (2, .int e_12)] [] := by
          refine z_iload_n S dX10_stepsOn_368 rfl 1 rfl ?_
          refine z_iconst (v := (-1)) S dX10_stepsOn_369 (by decide) ?_
          refine z_icmp_ne (tgt := 375) S he dX10_stepsOn_370 (by decide) (fun he => ?_) (fun he => ?_)
          · refine z_aload_n S dX10_stepsOn_375 rfl 0 rfl ?_
            refine z_getF (j := 214) S fo_RX10_53 14 rfl rfl ok_200 dX10_stepsOn_376 ?_
            refine z_iload_n S dX10_stepsOn_379 rfl 1 rfl ?_
            refine z_iald S ok_214 rfl he dX10_stepsOn_380 (fun he => ?_)
            refine z_istore_n (lv' := [(0, .ref (X.2.2 200)), (2, .int e_12), (3, .int (gA e_11 214 e_12))]) S [1, 2, 0] dX10_stepsOn_381 rfl (by decide) rfl ?_
            refine z_aload_n S dX10_stepsOn_382 rfl 0 rfl ?_
            refine z_getF (j := 210) S fo_RX10_41 10 rfl rfl ok_200 dX10_stepsOn_383 ?_
            refine z_iload_n S dX10_stepsOn_386 rfl 1 rfl ?_
            refine z_dup2 S dX10_stepsOn_387 rfl rfl ?_
            refine z_iald S ok_210 rfl he dX10_stepsOn_388 (fun he => ?_)
            refine z_iconst (v := 1) S dX10_stepsOn_389 (by decide) ?_
            refine z_iadd S dX10_stepsOn_390 ?_
            refine z_iastb S ok_210 rfl he dX10_stepsOn_391 (fun M13 he => ?_)
            refine z_iload_n S dX10_stepsOn_392 rfl 1 rfl ?_
            refine z_istore (lv' := [(0, .ref (X.2.2 200)), (3, .int (gA e_11 214 e_12)), (4, .int e_12)]) S [1, 3, 0] dX10_stepsOn_393 (by decide) rfl ?_
            obtain ⟨e_15, hl, he⟩ := bnd he
            have hX : Z X 1 p l e rm_X10_stepsOn s m args below meth c 0 0 (MQ below (QI X 1 r N s.heap.size) args s 0 0 (AA X 1 s.heap.size)) 7 e_15 435 [(3, .int (gA e_11 214 e_12))] [] := by
              refine z_iload_n S dX10_stepsOn_435 rfl 0 rfl ?_
              exact z_iret S (Prod.mk.inj (Option.some.inj he)) dX10_stepsOn_436
            exact loopZ (Zh := (fun a_15 => Z X 1 p l e rm_X10_stepsOn s m args below meth c 0 0 (MQ below (QI X 1 r N s.heap.size) args s 0 0 (AA X 1 s.heap.size)) 7 a_15.1 395 [(0, .ref (X.2.2 200)), (3, .int (gA e_11 214 e_12)), (4, .int a_15.2)] [])) (fun a_15 x hb hc hr => p_X10_stepsOn_L395 S  hb hc (fun b hxe => by rw [hr b hxe]; exact hX)) FU _ hl
          · refine z_iconst (v := 0) S dX10_stepsOn_373 (by decide) ?_
            exact z_iret S (Prod.mk.inj (Option.some.inj he)) dX10_stepsOn_374
        exact loopZ (Zh := (fun a_12 => Z X 1 p l e rm_X10_stepsOn s m args below meth c 0 0 (MQ below (QI X 1 r N s.heap.size) args s 0 0 (AA X 1 s.heap.size)) 7 e_11 306 [(0, .ref (X.2.2 200)), (2, .int a_12.1), (3, .int a_12.2)] [])) (fun a_12 x hb hc hr => p_X10_stepsOn_L306 S  hb hc (fun b hxe => by rw [hr b hxe]; exact hX)) FU _ hl
      exact loopZ (Zh := (fun a_11 => Z X 1 p l e rm_X10_stepsOn s m args below meth c 0 0 (MQ below (QI X 1 r N s.heap.size) args s 0 0 (AA X 1 s.heap.size)) 7 a_11.1 70 [(0, .ref (X.2.2 200)), (1, .int a1), (2, .int a_11.2)] [])) (fun a_11 x hb hc hr => p_X10_stepsOn_L70 S  hb hc (fun b hxe => by rw [hr b hxe]; exact hX)) FU _ hl
    exact loopZ (Zh := (fun a_3 => Z X 1 p l e rm_X10_stepsOn s m args below meth c 0 0 (MQ below (QI X 1 r N s.heap.size) args s 0 0 (AA X 1 s.heap.size)) 7 a_3.1 2 [(0, .ref (X.2.2 200)), (1, .int a1), (2, .int a_3.2)] [])) (fun a_3 x hb hc hr => p_X10_stepsOn_L2 S  hb hc (fun b hxe => by rw [hr b hxe]; exact hX)) FU _ hl
set_option maxRecDepth 100000 in
set_option maxHeartbeats 4000000 in
theorem p_X10_dearestFrom_L2 {X : Cx} {p : Program} {l : Launch} {e : Env} {s : State} {m : MethodId} {args : Array Value} {below : List Frame} {meth : Method} {c : Code} (S : SB X 1 p s m args meth c cX10_dearestFrom 4 (some .int) RX10) {M : Mm} {N : Mm} {r : Int32} {v1 : Int32} {v2 : Int32} {x : (Mm × Int32) ⊕ Mm}  (he : f_X10_dearestFrom_L2 M v1 v2 = some x) (hc : ∀ b, x = .inl b → Z X 1 p l e rm_X10_dearestFrom s m args below meth c 0 0 (MQ below (QI X 1 r N s.heap.size) args s 0 0 (AA X 1 s.heap.size)) 4 b.1 2 [(0, .ref (X.2.2 200)), (1, .int v1), (2, .int b.2)] []) (hx : ∀ b, x = .inr b → Z X 1 p l e rm_X10_dearestFrom s m args below meth c 0 0 (MQ below (QI X 1 r N s.heap.size) args s 0 0 (AA X 1 s.heap.size)) 4 b 21 [(0, .ref (X.2.2 200)), (1, .int v1)] []) : Z X 1 p l e rm_X10_dearestFrom s m args below meth c 0 0 (MQ below (QI X 1 r N s.heap.size) args s 0 0 (AA X 1 s.heap.size)) 4 M 2 [(0, .ref (X.2.2 200)), (1, .int v1), (2, .int v2)] [] := by
  unfold f_X10_dearestFrom_L2 at he
  refine z_iload_n S dX10_dearestFrom_2 rfl 2 rfl ?_
  refine z_bipush (v := 10) S dX10_dearestFrom_3 (by decide) ?_
  refine z_icmp_ge (tgt := 21) S he dX10_dearestFrom_5 (by decide) (fun he => ?_) (fun he => ?_)
  · refine z_lv (ks := [0, 1]) rfl ?_
    exact hx _ (Option.some.inj he).symm
  · refine z_aload_n S dX10_dearestFrom_8 rfl 0 rfl ?_
    refine z_getF (j := 211) S fo_RX10_44 11 rfl rfl ok_200 dX10_dearestFrom_9 ?_
    refine z_iload_n S dX10_dearestFrom_12 rfl 2 rfl ?_
    refine z_iconst (v := (-1)) S dX10_dearestFrom_13 (by decide) ?_
    refine z_iastb S ok_211 rfl he dX10_dearestFrom_14 (fun M1 he => ?_)
    refine z_iinc (v := (v2 + 1)) (lv' := [(0, .ref (X.2.2 200)), (1, .int v1), (2, .int (v2 + 1))]) S [1, 2, 0] 2 dX10_dearestFrom_15 rfl (by rfl) (by decide) rfl ?_
    refine z_goto (tgt := 2) S dX10_dearestFrom_18 (by decide) ?_
    refine z_lv (ks := [0, 1, 2]) rfl ?_
    exact hc _ (Option.some.inj he).symm
set_option maxRecDepth 100000 in
set_option maxHeartbeats 4000000 in
theorem p_X10_dearestFrom_L23 {X : Cx} {p : Program} {l : Launch} {e : Env} {s : State} {m : MethodId} {args : Array Value} {below : List Frame} {meth : Method} {c : Code} (S : SB X 1 p s m args meth c cX10_dearestFrom 4 (some .int) RX10) {M : Mm} {N : Mm} {r : Int32} {v1 : Int32} {v2 : Int32} {x : (Mm × Int32) ⊕ Mm}  (he : f_X10_dearestFrom_L23 M v1 v2 = some x) (hc : ∀ b, x = .inl b → Z X 1 p l e rm_X10_dearestFrom s m args below meth c 0 0 (MQ below (QI X 1 r N s.heap.size) args s 0 0 (AA X 1 s.heap.size)) 4 b.1 23 [(0, .ref (X.2.2 200)), (1, .int v1), (2, .int b.2)] []) (hx : ∀ b, x = .inr b → Z X 1 p l e rm_X10_dearestFrom s m args below meth c 0 0 (MQ below (QI X 1 r N s.heap.size) args s 0 0 (AA X 1 s.heap.size)) 4 b 42 [(0, .ref (X.2.2 200)), (1, .int v1)] []) : Z X 1 p l e rm_X10_dearestFrom s m args below meth c 0 0 (MQ below (QI X 1 r N s.heap.size) args s 0 0 (AA X 1 s.heap.size)) 4 M 23 [(0, .ref (X.2.2 200)), (1, .int v1), (2, .int v2)] [] := by
  unfold f_X10_dearestFrom_L23 at he
  refine z_iload_n S dX10_dearestFrom_23 rfl 2 rfl ?_
  refine z_bipush (v := 9) S dX10_dearestFrom_24 (by decide) ?_
  refine z_icmp_ge (tgt := 42) S he dX10_dearestFrom_26 (by decide) (fun he => ?_) (fun he => ?_)
  · refine z_lv (ks := [0, 1]) rfl ?_
    exact hx _ (Option.some.inj he).symm
  · refine z_aload_n S dX10_dearestFrom_29 rfl 0 rfl ?_
    refine z_getF (j := 210) S fo_RX10_41 10 rfl rfl ok_200 dX10_dearestFrom_30 ?_
    refine z_iload_n S dX10_dearestFrom_33 rfl 2 rfl ?_
    refine z_iconst (v := 0) S dX10_dearestFrom_34 (by decide) ?_
    refine z_iastb S ok_210 rfl he dX10_dearestFrom_35 (fun M3 he => ?_)
    refine z_iinc (v := (v2 + 1)) (lv' := [(0, .ref (X.2.2 200)), (1, .int v1), (2, .int (v2 + 1))]) S [1, 2, 0] 2 dX10_dearestFrom_36 rfl (by rfl) (by decide) rfl ?_
    refine z_goto (tgt := 23) S dX10_dearestFrom_39 (by decide) ?_
    refine z_lv (ks := [0, 1, 2]) rfl ?_
    exact hc _ (Option.some.inj he).symm
set_option maxRecDepth 100000 in
set_option maxHeartbeats 4000000 in
theorem p_X10_dearestFrom_L50 {X : Cx} {p : Program} {l : Launch} {e : Env} {s : State} {m : MethodId} {args : Array Value} {below : List Frame} {meth : Method} {c : Code} (S : SB X 1 p s m args meth c cX10_dearestFrom 4 (some .int) RX10) {M : Mm} {N : Mm} {r : Int32} {v1 : Int32} {v2 : Int32} {v3 : Int32} {x : (Mm × Int32 × Int32) ⊕ (Mm × Int32)}  (he : f_X10_dearestFrom_L50 M v1 v2 v3 = some x) (hc : ∀ b, x = .inl b → Z X 1 p l e rm_X10_dearestFrom s m args below meth c 0 0 (MQ below (QI X 1 r N s.heap.size) args s 0 0 (AA X 1 s.heap.size)) 4 b.1 50 [(0, .ref (X.2.2 200)), (1, .int v1), (2, .int b.2.1), (3, .int b.2.2)] []) (hx : ∀ b, x = .inr b → Z X 1 p l e rm_X10_dearestFrom s m args below meth c 0 0 (MQ below (QI X 1 r N s.heap.size) args s 0 0 (AA X 1 s.heap.size)) 4 b.1 67 [(2, .int b.2)] []) : Z X 1 p l e rm_X10_dearestFrom s m args below meth c 0 0 (MQ below (QI X 1 r N s.heap.size) args s 0 0 (AA X 1 s.heap.size)) 4 M 50 [(0, .ref (X.2.2 200)), (1, .int v1), (2, .int v2), (3, .int v3)] [] := by
  unfold f_X10_dearestFrom_L50 at he
  refine z_iload_n S dX10_dearestFrom_50 rfl 3 rfl ?_
  refine z_if_le (tgt := 67) S he dX10_dearestFrom_51 (by decide) (fun he => ?_) (fun he => ?_)
  · refine z_lv (ks := [2]) rfl ?_
    exact hx _ (Option.some.inj he).symm
  · refine z_iload_n S dX10_dearestFrom_54 rfl 2 rfl ?_
    refine z_iload_n S dX10_dearestFrom_55 rfl 3 rfl ?_
    refine z_iadd S dX10_dearestFrom_56 ?_
    refine z_istore_n (lv' := [(0, .ref (X.2.2 200)), (1, .int v1), (2, .int (v2 + v3))]) S [1, 2, 0] dX10_dearestFrom_57 rfl (by decide) rfl ?_
    refine z_aload_n S dX10_dearestFrom_58 rfl 0 rfl ?_
    refine z_iload_n S dX10_dearestFrom_59 rfl 1 rfl ?_
    obtain ⟨⟨r7, M8⟩, h9, he⟩ := bnd he
    dsimp only at he
    refine z_cVI (As := [.int v1]) S cv_RX10_327 (K_X10_stepsOn  h9) ok_200 (by decide) (q := (RX10, TX10, 28)) rfl rfl ⟨rfl, rfl⟩ ⟨Nat.le_of_ble_eq_true rfl, Nat.le_of_ble_eq_true rfl⟩ ⟨Nat.le_refl _, Nat.le_refl _⟩ rfl rfl (Nat.le_of_ble_eq_true rfl) dX10_dearestFrom_60 ?_
    refine z_istore_n (lv' := [(0, .ref (X.2.2 200)), (1, .int v1), (2, .int (v2 + v3)), (3, .int r7)]) S [1, 2, 3, 0] dX10_dearestFrom_63 rfl (by decide) rfl ?_
    refine z_goto (tgt := 50) S dX10_dearestFrom_64 (by decide) ?_
    refine z_lv (ks := [0, 1, 2, 3]) rfl ?_
    exact hc _ (Option.some.inj he).symm
set_option maxRecDepth 100000 in
set_option maxHeartbeats 4000000 in
theorem K_X10_dearestFrom {X : Cx} {l : Launch} {M : Mm} {a1 : Int32} {r : Int32} {N : Mm}  (he : f_X10_dearestFrom M a1 = some (r, N)) : KI X 1 l yX10_dearestFrom (wz yX10_dearestFrom cX10_dearestFrom 4 (some .int)) rm_X10_dearestFrom [.ref (X.2.2 200), .int a1] M r N := by
  intro sz
  refine K_of (Qc := (fun sz => QI X 1 r N sz)) (own := RX10) (lv0 := [(0, .ref (X.2.2 200)), (1, .int a1)]) (by decide +kernel) rfl (Nat.le_of_ble_eq_true rfl) rfl (fun p e s m args below meth c S => ?_) sz
  · unfold f_X10_dearestFrom at he
    refine z_iconst (v := 0) S dX10_dearestFrom_0 (by decide) ?_
    refine z_istore_n (lv' := [(0, .ref (X.2.2 200)), (1, .int a1), (2, .int 0)]) S [1, 2, 0] dX10_dearestFrom_1 rfl (by decide) rfl ?_
    obtain ⟨e_2, hl, he⟩ := bnd he
    have hX : Z X 1 p l e rm_X10_dearestFrom s m args below meth c 0 0 (MQ below (QI X 1 r N s.heap.size) args s 0 0 (AA X 1 s.heap.size)) 4 e_2 21 [(0, .ref (X.2.2 200)), (1, .int a1)] [] := by
      refine z_iconst (v := 0) S dX10_dearestFrom_21 (by decide) ?_
      refine z_istore_n (lv' := [(0, .ref (X.2.2 200)), (1, .int a1), (2, .int 0)]) S [1, 2, 0] dX10_dearestFrom_22 rfl (by decide) rfl ?_
      obtain ⟨e_4, hl, he⟩ := bnd he
      have hX : Z X 1 p l e rm_X10_dearestFrom s m args below meth c 0 0 (MQ below (QI X 1 r N s.heap.size) args s 0 0 (AA X 1 s.heap.size)) 4 e_4 42 [(0, .ref (X.2.2 200)), (1, .int a1)] [] := by
        refine z_iconst (v := 0) S dX10_dearestFrom_42 (by decide) ?_
        refine z_istore_n (lv' := [(0, .ref (X.2.2 200)), (1, .int a1), (2, .int 0)]) S [1, 2, 0] dX10_dearestFrom_43 rfl (by decide) rfl ?_
        refine z_aload_n S dX10_dearestFrom_44 rfl 0 rfl ?_
        refine z_iload_n S dX10_dearestFrom_45 rfl 1 rfl ?_
        obtain ⟨⟨r5, M6⟩, h9, he⟩ := bnd he
        dsimp only at he
        refine z_cVI (As := [.int a1]) S cv_RX10_327 (K_X10_stepsOn  h9) ok_200 (by decide) (q := (RX10, TX10, 28)) rfl rfl ⟨rfl, rfl⟩ ⟨Nat.le_of_ble_eq_true rfl, Nat.le_of_ble_eq_true rfl⟩ ⟨Nat.le_refl _, Nat.le_refl _⟩ rfl rfl (Nat.le_of_ble_eq_true rfl) dX10_dearestFrom_46 ?_
        refine z_istore_n (lv' := [(0, .ref (X.2.2 200)), (1, .int a1), (2, .int 0), (3, .int r5)]) S [1, 2, 3, 0] dX10_dearestFrom_49 rfl (by decide) rfl ?_
        obtain ⟨e_9, hl, he⟩ := bnd he
        have hX : Z X 1 p l e rm_X10_dearestFrom s m args below meth c 0 0 (MQ below (QI X 1 r N s.heap.size) args s 0 0 (AA X 1 s.heap.size)) 4 e_9.1 67 [(2, .int e_9.2)] [] := by
          refine z_iload_n S dX10_dearestFrom_67 rfl 0 rfl ?_
          exact z_iret S (Prod.mk.inj (Option.some.inj he)) dX10_dearestFrom_68
        exact loopZ (Zh := (fun a_9 => Z X 1 p l e rm_X10_dearestFrom s m args below meth c 0 0 (MQ below (QI X 1 r N s.heap.size) args s 0 0 (AA X 1 s.heap.size)) 4 a_9.1 50 [(0, .ref (X.2.2 200)), (1, .int a1), (2, .int a_9.2.1), (3, .int a_9.2.2)] [])) (fun a_9 x hb hc hr => p_X10_dearestFrom_L50 S  hb hc (fun b hxe => by rw [hr b hxe]; exact hX)) FU _ hl
      exact loopZ (Zh := (fun a_4 => Z X 1 p l e rm_X10_dearestFrom s m args below meth c 0 0 (MQ below (QI X 1 r N s.heap.size) args s 0 0 (AA X 1 s.heap.size)) 4 a_4.1 23 [(0, .ref (X.2.2 200)), (1, .int a1), (2, .int a_4.2)] [])) (fun a_4 x hb hc hr => p_X10_dearestFrom_L23 S  hb hc (fun b hxe => by rw [hr b hxe]; exact hX)) FU _ hl
    exact loopZ (Zh := (fun a_2 => Z X 1 p l e rm_X10_dearestFrom s m args below meth c 0 0 (MQ below (QI X 1 r N s.heap.size) args s 0 0 (AA X 1 s.heap.size)) 4 a_2.1 2 [(0, .ref (X.2.2 200)), (1, .int a1), (2, .int a_2.2)] [])) (fun a_2 x hb hc hr => p_X10_dearestFrom_L2 S  hb hc (fun b hxe => by rw [hr b hxe]; exact hX)) FU _ hl
set_option maxRecDepth 100000 in
set_option maxHeartbeats 4000000 in
theorem p_X10_firstFor_J2_75 {X : Cx} {p : Program} {l : Launch} {e : Env} {s : State} {m : MethodId} {args : Array Value} {below : List Frame} {meth : Method} {c : Code} (S : SB X 1 p s m args meth c cX10_firstFor 5 (some .int) RX10) {M : Mm} {N : Mm} {r : Int32} {v1 : Int32} {v2 : Int32} {v3 : Int32} {t0 : Int32} {x : (Mm × Int32) ⊕ ((Int32 × Mm) ⊕ Mm)}  (he : f_X10_firstFor_J2_75 M v1 v2 v3 t0 = some x) (hc : ∀ b, x = .inl b → Z X 1 p l e rm_X10_firstFor s m args below meth c 0 0 (MQ below (QI X 1 r N s.heap.size) args s 0 0 (AA X 1 s.heap.size)) 5 b.1 2 [(0, .ref (X.2.2 200)), (1, .int v1), (2, .int v2), (3, .int b.2)] []) (hx : ∀ b, x = .inr (.inr b) → Z X 1 p l e rm_X10_firstFor s m args below meth c 0 0 (MQ below (QI X 1 r N s.heap.size) args s 0 0 (AA X 1 s.heap.size)) 5 b 100 [] []) (hr : ∀ v, x = .inr (.inl v) → v = (r, N)) : Z X 1 p l e rm_X10_firstFor s m args below meth c 0 0 (MQ below (QI X 1 r N s.heap.size) args s 0 0 (AA X 1 s.heap.size)) 5 M 75 [(0, .ref (X.2.2 200)), (1, .int v1), (2, .int v2), (3, .int v3)] [.int t0] := by
  unfold f_X10_firstFor_J2_75 at he
  refine z_istore (lv' := [(0, .ref (X.2.2 200)), (1, .int v1), (2, .int v2), (3, .int v3), (4, .int t0)]) S [1, 2, 3, 4, 0] dX10_firstFor_75 (by decide) rfl ?_
  refine z_aload_n S dX10_firstFor_77 rfl 0 rfl ?_
  refine z_getF (j := 213) S fo_RX10_50 13 rfl rfl ok_200 dX10_firstFor_78 ?_
  refine z_iload_n S dX10_firstFor_81 rfl 3 rfl ?_
  refine z_dup2 S dX10_firstFor_82 rfl rfl ?_
  refine z_iald S ok_213 rfl he dX10_firstFor_83 (fun he => ?_)
  refine z_iconst (v := 1) S dX10_firstFor_84 (by decide) ?_
  refine z_iadd S dX10_firstFor_85 ?_
  refine z_iastb S ok_213 rfl he dX10_firstFor_86 (fun M4 he => ?_)
  refine z_iload S dX10_firstFor_87 4 rfl ?_
  refine z_if_eq (tgt := 94) S he dX10_firstFor_89 (by decide) (fun he => ?_) (fun he => ?_)
  · refine z_iinc (v := (v3 + 1)) (lv' := [(0, .ref (X.2.2 200)), (1, .int v1), (2, .int v2), (3, .int (v3 + 1)), (4, .int t0)]) S [1, 2, 3, 0, 4] 3 dX10_firstFor_94 rfl (by rfl) (by decide) rfl ?_
    refine z_goto (tgt := 2) S dX10_firstFor_97 (by decide) ?_
    refine z_lv (ks := [0, 1, 2, 3]) rfl ?_
    exact hc _ (Option.some.inj he).symm
  · refine z_iload_n S dX10_firstFor_92 rfl 3 rfl ?_
    exact z_iret S (Prod.mk.inj (hr _ (Option.some.inj he).symm)) dX10_firstFor_93
set_option maxRecDepth 100000 in
set_option maxHeartbeats 4000000 in
theorem p_X10_firstFor_L2 {X : Cx} {p : Program} {l : Launch} {e : Env} {s : State} {m : MethodId} {args : Array Value} {below : List Frame} {meth : Method} {c : Code} (S : SB X 1 p s m args meth c cX10_firstFor 5 (some .int) RX10) {M : Mm} {N : Mm} {r : Int32} {v1 : Int32} {v2 : Int32} {v3 : Int32} {x : (Mm × Int32) ⊕ ((Int32 × Mm) ⊕ Mm)}  (he : f_X10_firstFor_L2 M v1 v2 v3 = some x) (hc : ∀ b, x = .inl b → Z X 1 p l e rm_X10_firstFor s m args below meth c 0 0 (MQ below (QI X 1 r N s.heap.size) args s 0 0 (AA X 1 s.heap.size)) 5 b.1 2 [(0, .ref (X.2.2 200)), (1, .int v1), (2, .int v2), (3, .int b.2)] []) (hx : ∀ b, x = .inr (.inr b) → Z X 1 p l e rm_X10_firstFor s m args below meth c 0 0 (MQ below (QI X 1 r N s.heap.size) args s 0 0 (AA X 1 s.heap.size)) 5 b 100 [] []) (hr : ∀ v, x = .inr (.inl v) → v = (r, N)) : Z X 1 p l e rm_X10_firstFor s m args below meth c 0 0 (MQ below (QI X 1 r N s.heap.size) args s 0 0 (AA X 1 s.heap.size)) 5 M 2 [(0, .ref (X.2.2 200)), (1, .int v1), (2, .int v2), (3, .int v3)] [] := by
  unfold f_X10_firstFor_L2 at he
  refine z_iload_n S dX10_firstFor_2 rfl 3 rfl ?_
  refine z_aload_n S dX10_firstFor_3 rfl 0 rfl ?_
  refine z_getF (j := 201) S fo_RX10_7 1 rfl rfl ok_200 dX10_firstFor_4 ?_
  refine z_iconst (v := 3) S dX10_firstFor_7 (by decide) ?_
  refine z_iald S ok_201 rfl he dX10_firstFor_8 (fun he => ?_)
  refine z_icmp_ge (tgt := 100) S he dX10_firstFor_9 (by decide) (fun he => ?_) (fun he => ?_)
  · refine z_lv (ks := []) rfl ?_
    exact hx _ (Option.some.inj he).symm
  · refine z_aload_n S dX10_firstFor_12 rfl 0 rfl ?_
    refine z_getF (j := 212) S fo_RX10_47 12 rfl rfl ok_200 dX10_firstFor_13 ?_
    refine z_iload_n S dX10_firstFor_16 rfl 1 rfl ?_
    refine z_iald S ok_212 rfl he dX10_firstFor_17 (fun he => ?_)
    refine z_iload_n S dX10_firstFor_18 rfl 3 rfl ?_
    refine z_cSI (As := [.int (gA M 212 v1), .int v3]) S cs_RX10_117 (K_X10_isOf  rfl) ⟨rfl, rfl⟩ ⟨Nat.le_of_ble_eq_true rfl, Nat.le_of_ble_eq_true rfl⟩ ⟨Nat.le_refl _, Nat.le_refl _⟩ rfl rfl (Nat.le_of_ble_eq_true rfl) dX10_firstFor_19 ?_
    refine z_ifb_eq (tgt := 94) S he dX10_firstFor_22 (by decide) (fun he => ?_) (fun he => ?_)
    · refine z_iinc (v := (v3 + 1)) (lv' := [(0, .ref (X.2.2 200)), (1, .int v1), (2, .int v2), (3, .int (v3 + 1))]) S [1, 2, 3, 0] 3 dX10_firstFor_94 rfl (by rfl) (by decide) rfl ?_
      refine z_goto (tgt := 2) S dX10_firstFor_97 (by decide) ?_
      refine z_lv (ks := [0, 1, 2, 3]) rfl ?_
      exact hc _ (Option.some.inj he).symm
    · refine z_aload_n S dX10_firstFor_25 rfl 0 rfl ?_
      refine z_getF (j := 213) S fo_RX10_50 13 rfl rfl ok_200 dX10_firstFor_26 ?_
      refine z_iload_n S dX10_firstFor_29 rfl 3 rfl ?_
      refine z_iald S ok_213 rfl he dX10_firstFor_30 (fun he => ?_)
      refine z_if_ne (tgt := 37) S he dX10_firstFor_31 (by decide) (fun he => ?_) (fun he => ?_)
      · refine z_aload_n S dX10_firstFor_37 rfl 0 rfl ?_
        refine z_getF (j := 213) S fo_RX10_50 13 rfl rfl ok_200 dX10_firstFor_38 ?_
        refine z_iload_n S dX10_firstFor_41 rfl 3 rfl ?_
        refine z_dup2 S dX10_firstFor_42 rfl rfl ?_
        refine z_iald S ok_213 rfl he dX10_firstFor_43 (fun he => ?_)
        refine z_iconst (v := 1) S dX10_firstFor_44 (by decide) ?_
        refine z_isub S dX10_firstFor_45 ?_
        refine z_iastb S ok_213 rfl he dX10_firstFor_46 (fun M1 he => ?_)
        refine z_aload_n S dX10_firstFor_47 rfl 0 rfl ?_
        refine z_iload_n S dX10_firstFor_48 rfl 1 rfl ?_
        refine z_iconst (v := 1) S dX10_firstFor_49 (by decide) ?_
        refine z_iadd S dX10_firstFor_50 ?_
        obtain ⟨⟨r2, M3⟩, h9, he⟩ := bnd he
        dsimp only at he
        refine z_cVI (As := [.int (v1 + 1)]) S cv_RX10_331 (K_X10_dearestFrom  h9) ok_200 (by decide) (q := (RX10, TX10, 28)) rfl rfl ⟨rfl, rfl⟩ ⟨Nat.le_of_ble_eq_true rfl, Nat.le_of_ble_eq_true rfl⟩ ⟨Nat.le_refl _, Nat.le_refl _⟩ rfl rfl (Nat.le_of_ble_eq_true rfl) dX10_firstFor_51 ?_
        refine z_aload_n S dX10_firstFor_54 rfl 0 rfl ?_
        refine z_getF (j := 207) S fo_RX10_32 7 rfl rfl ok_200 dX10_firstFor_55 ?_
        refine z_bipush (v := 10) S dX10_firstFor_58 (by decide) ?_
        refine z_iload_n S dX10_firstFor_60 rfl 3 rfl ?_
        refine z_imul S dX10_firstFor_61 ?_
        refine z_iload_n S dX10_firstFor_62 rfl 1 rfl ?_
        refine z_iadd S dX10_firstFor_63 ?_
        refine z_iald S ok_207 rfl he dX10_firstFor_64 (fun he => ?_)
        refine z_iadd S dX10_firstFor_65 ?_
        refine z_iload_n S dX10_firstFor_66 rfl 2 rfl ?_
        refine z_icmp_ne (tgt := 74) S he dX10_firstFor_67 (by decide) (fun he => ?_) (fun he => ?_)
        · refine z_iconst (v := 0) S dX10_firstFor_74 (by decide) ?_
          exact p_X10_firstFor_J2_75 S  he hc hx hr
        · refine z_iconst (v := 1) S dX10_firstFor_70 (by decide) ?_
          refine z_goto (tgt := 75) S dX10_firstFor_71 (by decide) ?_
          exact p_X10_firstFor_J2_75 S  he hc hx hr
      · refine z_goto (tgt := 94) S dX10_firstFor_34 (by decide) ?_
        refine z_iinc (v := (v3 + 1)) (lv' := [(0, .ref (X.2.2 200)), (1, .int v1), (2, .int v2), (3, .int (v3 + 1))]) S [1, 2, 3, 0] 3 dX10_firstFor_94 rfl (by rfl) (by decide) rfl ?_
        refine z_goto (tgt := 2) S dX10_firstFor_97 (by decide) ?_
        refine z_lv (ks := [0, 1, 2, 3]) rfl ?_
        exact hc _ (Option.some.inj he).symm
set_option maxRecDepth 100000 in
set_option maxHeartbeats 4000000 in
theorem K_X10_firstFor {X : Cx} {l : Launch} {M : Mm} {a1 : Int32} {a2 : Int32} {r : Int32} {N : Mm}  (he : f_X10_firstFor M a1 a2 = some (r, N)) : KI X 1 l yX10_firstFor (wz yX10_firstFor cX10_firstFor 5 (some .int)) rm_X10_firstFor [.ref (X.2.2 200), .int a1, .int a2] M r N := by
  intro sz
  refine K_of (Qc := (fun sz => QI X 1 r N sz)) (own := RX10) (lv0 := [(0, .ref (X.2.2 200)), (1, .int a1), (2, .int a2)]) (by decide +kernel) rfl (Nat.le_of_ble_eq_true rfl) rfl (fun p e s m args below meth c S => ?_) sz
  · unfold f_X10_firstFor at he
    refine z_iconst (v := 0) S dX10_firstFor_0 (by decide) ?_
    refine z_istore_n (lv' := [(0, .ref (X.2.2 200)), (1, .int a1), (2, .int a2), (3, .int 0)]) S [1, 2, 3, 0] dX10_firstFor_1 rfl (by decide) rfl ?_
    obtain ⟨r9, hl, hr1, hr2⟩ := bndS he
    have hX : ∀ e_5, r9 = .inr e_5 → Z X 1 p l e rm_X10_firstFor s m args below meth c 0 0 (MQ below (QI X 1 r N s.heap.size) args s 0 0 (AA X 1 s.heap.size)) 5 e_5 100 [] [] := by
      intro e_5 hre
      have he := hr2 e_5 hre
      refine z_iconst (v := (-1)) S dX10_firstFor_100 (by decide) ?_
      exact z_iret S (Prod.mk.inj (Option.some.inj he)) dX10_firstFor_101
    exact loopZ (Zh := (fun a_5 => Z X 1 p l e rm_X10_firstFor s m args below meth c 0 0 (MQ below (QI X 1 r N s.heap.size) args s 0 0 (AA X 1 s.heap.size)) 5 a_5.1 2 [(0, .ref (X.2.2 200)), (1, .int a1), (2, .int a2), (3, .int a_5.2)] [])) (fun a_5 x hb hc hr9 => p_X10_firstFor_L2 S  hb hc (fun b hxe => hX b (hr9 _ hxe).symm) (fun v hxv => Option.some.inj (hr1 v (hr9 _ hxv).symm))) FU _ hl
set_option maxRecDepth 100000 in
set_option maxHeartbeats 4000000 in
theorem p_X5_fewestTooMany_J4_32 {X : Cx} {p : Program} {l : Launch} {e : Env} {s : State} {m : MethodId} {args : Array Value} {below : List Frame} {meth : Method} {c : Code} (S : SB X 0 p s m args meth c cX5_fewestTooMany 4 (some .int) RX5) {M : Mm} {r : Int32} {v1 : Int32} {v2 : Int32} {t0 : Int32} {x : (Int32 × Int32) ⊕ Int32}  (he : f_X5_fewestTooMany_J4_32 M v1 v2 t0 = some x) (hc : ∀ b, x = .inl b → Z X 0 p l e rm_X5_fewestTooMany s m args below meth c 0 0 (MQ below (QI X 0 r M s.heap.size) args s 0 0 (AA X 0 s.heap.size)) 4 M 4 [(0, .ref (X.2.2 87)), (1, .int b.1), (2, .int b.2)] []) (hx : ∀ b, x = .inr b → Z X 0 p l e rm_X5_fewestTooMany s m args below meth c 0 0 (MQ below (QI X 0 r M s.heap.size) args s 0 0 (AA X 0 s.heap.size)) 4 M 53 [(1, .int b)] []) : Z X 0 p l e rm_X5_fewestTooMany s m args below meth c 0 0 (MQ below (QI X 0 r M s.heap.size) args s 0 0 (AA X 0 s.heap.size)) 4 M 32 [(0, .ref (X.2.2 87)), (1, .int v1), (2, .int v2)] [.int t0] := by
  unfold f_X5_fewestTooMany_J4_32 at he
  refine z_istore_n (lv' := [(0, .ref (X.2.2 87)), (1, .int v1), (2, .int v2), (3, .int t0)]) S [1, 2, 3, 0] dX5_fewestTooMany_32 rfl (by decide) rfl ?_
  refine z_iload_n S dX5_fewestTooMany_33 rfl 3 rfl ?_
  refine z_if_eq (tgt := 47) S he dX5_fewestTooMany_34 (by decide) (fun he => ?_) (fun he => ?_)
  · refine z_iinc (v := (v2 + 1)) (lv' := [(0, .ref (X.2.2 87)), (1, .int v1), (2, .int (v2 + 1)), (3, .int t0)]) S [1, 2, 0, 3] 2 dX5_fewestTooMany_47 rfl (by rfl) (by decide) rfl ?_
    refine z_goto (tgt := 4) S dX5_fewestTooMany_50 (by decide) ?_
    refine z_lv (ks := [0, 1, 2]) rfl ?_
    exact hc _ (Option.some.inj he).symm
  · refine z_aload_n S dX5_fewestTooMany_37 rfl 0 rfl ?_
    refine z_iload_n S dX5_fewestTooMany_38 rfl 2 rfl ?_
    obtain ⟨r1, h9, he⟩ := bnd he
    refine z_cVI (As := [.int v2]) S cv_RX5_53 (K_X5_tooMany  h9) ok_87 (by decide) (q := (RX5, TX5, 5)) rfl rfl ⟨rfl, rfl⟩ ⟨Nat.le_of_ble_eq_true rfl, Nat.le_of_ble_eq_true rfl⟩ ⟨Nat.le_refl _, Nat.le_refl _⟩ rfl rfl (Nat.le_of_ble_eq_true rfl) dX5_fewestTooMany_39 ?_
    refine z_ifb_eq (tgt := 47) S he dX5_fewestTooMany_42 (by decide) (fun he => ?_) (fun he => ?_)
    · refine z_iinc (v := (v2 + 1)) (lv' := [(0, .ref (X.2.2 87)), (1, .int v1), (2, .int (v2 + 1)), (3, .int t0)]) S [1, 2, 0, 3] 2 dX5_fewestTooMany_47 rfl (by rfl) (by decide) rfl ?_
      refine z_goto (tgt := 4) S dX5_fewestTooMany_50 (by decide) ?_
      refine z_lv (ks := [0, 1, 2]) rfl ?_
      exact hc _ (Option.some.inj he).symm
    · refine z_iload_n S dX5_fewestTooMany_45 rfl 2 rfl ?_
      refine z_istore_n (lv' := [(0, .ref (X.2.2 87)), (1, .int v2), (2, .int v2)]) S [1, 0, 2] dX5_fewestTooMany_46 rfl (by decide) rfl ?_
      refine z_iinc (v := (v2 + 1)) (lv' := [(0, .ref (X.2.2 87)), (1, .int v2), (2, .int (v2 + 1))]) S [1, 2, 0] 2 dX5_fewestTooMany_47 rfl (by rfl) (by decide) rfl ?_
      refine z_goto (tgt := 4) S dX5_fewestTooMany_50 (by decide) ?_
      refine z_lv (ks := [0, 1, 2]) rfl ?_
      exact hc _ (Option.some.inj he).symm
set_option maxRecDepth 100000 in
set_option maxHeartbeats 4000000 in
theorem p_X5_fewestTooMany_J4_27 {X : Cx} {p : Program} {l : Launch} {e : Env} {s : State} {m : MethodId} {args : Array Value} {below : List Frame} {meth : Method} {c : Code} (S : SB X 0 p s m args meth c cX5_fewestTooMany 4 (some .int) RX5) {M : Mm} {r : Int32} {v1 : Int32} {v2 : Int32} {x : (Int32 × Int32) ⊕ Int32}  (he : f_X5_fewestTooMany_J4_27 M v1 v2 = some x) (hc : ∀ b, x = .inl b → Z X 0 p l e rm_X5_fewestTooMany s m args below meth c 0 0 (MQ below (QI X 0 r M s.heap.size) args s 0 0 (AA X 0 s.heap.size)) 4 M 4 [(0, .ref (X.2.2 87)), (1, .int b.1), (2, .int b.2)] []) (hx : ∀ b, x = .inr b → Z X 0 p l e rm_X5_fewestTooMany s m args below meth c 0 0 (MQ below (QI X 0 r M s.heap.size) args s 0 0 (AA X 0 s.heap.size)) 4 M 53 [(1, .int b)] []) : Z X 0 p l e rm_X5_fewestTooMany s m args below meth c 0 0 (MQ below (QI X 0 r M s.heap.size) args s 0 0 (AA X 0 s.heap.size)) 4 M 27 [(0, .ref (X.2.2 87)), (1, .int v1), (2, .int v2)] [] := by
  unfold f_X5_fewestTooMany_J4_27 at he
  refine z_iconst (v := 1) S dX5_fewestTooMany_27 (by decide) ?_
  refine z_goto (tgt := 32) S dX5_fewestTooMany_28 (by decide) ?_
  exact p_X5_fewestTooMany_J4_32 S  he hc hx
set_option maxRecDepth 100000 in
set_option maxHeartbeats 4000000 in
theorem p_X5_fewestTooMany_L4 {X : Cx} {p : Program} {l : Launch} {e : Env} {s : State} {m : MethodId} {args : Array Value} {below : List Frame} {meth : Method} {c : Code} (S : SB X 0 p s m args meth c cX5_fewestTooMany 4 (some .int) RX5) {M : Mm} {r : Int32} {v1 : Int32} {v2 : Int32} {x : (Int32 × Int32) ⊕ Int32}  (he : f_X5_fewestTooMany_L4 M v1 v2 = some x) (hc : ∀ b, x = .inl b → Z X 0 p l e rm_X5_fewestTooMany s m args below meth c 0 0 (MQ below (QI X 0 r M s.heap.size) args s 0 0 (AA X 0 s.heap.size)) 4 M 4 [(0, .ref (X.2.2 87)), (1, .int b.1), (2, .int b.2)] []) (hx : ∀ b, x = .inr b → Z X 0 p l e rm_X5_fewestTooMany s m args below meth c 0 0 (MQ below (QI X 0 r M s.heap.size) args s 0 0 (AA X 0 s.heap.size)) 4 M 53 [(1, .int b)] []) : Z X 0 p l e rm_X5_fewestTooMany s m args below meth c 0 0 (MQ below (QI X 0 r M s.heap.size) args s 0 0 (AA X 0 s.heap.size)) 4 M 4 [(0, .ref (X.2.2 87)), (1, .int v1), (2, .int v2)] [] := by
  unfold f_X5_fewestTooMany_L4 at he
  refine z_iload_n S dX5_fewestTooMany_4 rfl 2 rfl ?_
  refine z_aload_n S dX5_fewestTooMany_5 rfl 0 rfl ?_
  refine z_getI S fo_RX5_29 rfl ok_87 dX5_fewestTooMany_6 ?_
  refine z_icmp_ge (tgt := 53) S he dX5_fewestTooMany_9 (by decide) (fun he => ?_) (fun he => ?_)
  · refine z_lv (ks := [1]) rfl ?_
    exact hx _ (Option.some.inj he).symm
  · refine z_iload_n S dX5_fewestTooMany_12 rfl 1 rfl ?_
    refine z_if_eq (tgt := 27) S he dX5_fewestTooMany_13 (by decide) (fun he => ?_) (fun he => ?_)
    · exact p_X5_fewestTooMany_J4_27 S  he hc hx
    · refine z_iload_n S dX5_fewestTooMany_16 rfl 2 rfl ?_
      obtain ⟨r2, h9, he⟩ := bnd he
      refine z_cSI (As := [.int v2]) S cs_RX5_47 (K_J6_bitCount_0f7a4  h9) ⟨rfl, rfl⟩ ⟨Nat.le_of_ble_eq_true rfl, Nat.le_of_ble_eq_true rfl⟩ ⟨Nat.le_refl _, Nat.le_refl _⟩ rfl rfl (Nat.le_of_ble_eq_true rfl) dX5_fewestTooMany_17 ?_
      refine z_iload_n S dX5_fewestTooMany_20 rfl 1 rfl ?_
      obtain ⟨r3, h9, he⟩ := bnd he
      refine z_cSI (As := [.int v1]) S cs_RX5_47 (K_J6_bitCount_0f7a4  h9) ⟨rfl, rfl⟩ ⟨Nat.le_of_ble_eq_true rfl, Nat.le_of_ble_eq_true rfl⟩ ⟨Nat.le_refl _, Nat.le_refl _⟩ rfl rfl (Nat.le_of_ble_eq_true rfl) dX5_fewestTooMany_21 ?_
      refine z_icmp_ge (tgt := 31) S he dX5_fewestTooMany_24 (by decide) (fun he => ?_) (fun he => ?_)
      · refine z_iconst (v := 0) S dX5_fewestTooMany_31 (by decide) ?_
        exact p_X5_fewestTooMany_J4_32 S  he hc hx
      · exact p_X5_fewestTooMany_J4_27 S  he hc hx
set_option maxRecDepth 100000 in
set_option maxHeartbeats 4000000 in
theorem K_X5_fewestTooMany {X : Cx} {l : Launch} {M : Mm} {r : Int32}  (he : f_X5_fewestTooMany M  = some r) : KI X 0 l yX5_fewestTooMany (wz yX5_fewestTooMany cX5_fewestTooMany 4 (some .int)) rm_X5_fewestTooMany [.ref (X.2.2 87)] M r M := by
  intro sz
  refine K_of (Qc := (fun sz => QI X 0 r M sz)) (own := RX5) (lv0 := [(0, .ref (X.2.2 87))]) (by decide +kernel) rfl (Nat.le_of_ble_eq_true rfl) rfl (fun p e s m args below meth c S => ?_) sz
  · unfold f_X5_fewestTooMany at he
    refine z_iconst (v := 0) S dX5_fewestTooMany_0 (by decide) ?_
    refine z_istore_n (lv' := [(0, .ref (X.2.2 87)), (1, .int 0)]) S [1, 0] dX5_fewestTooMany_1 rfl (by decide) rfl ?_
    refine z_iconst (v := 1) S dX5_fewestTooMany_2 (by decide) ?_
    refine z_istore_n (lv' := [(0, .ref (X.2.2 87)), (1, .int 0), (2, .int 1)]) S [1, 2, 0] dX5_fewestTooMany_3 rfl (by decide) rfl ?_
    obtain ⟨e_4, hl, he⟩ := bnd he
    have hX : Z X 0 p l e rm_X5_fewestTooMany s m args below meth c 0 0 (MQ below (QI X 0 r M s.heap.size) args s 0 0 (AA X 0 s.heap.size)) 4 M 53 [(1, .int e_4)] [] := by
      refine z_iload_n S dX5_fewestTooMany_53 rfl 0 rfl ?_
      exact z_iret S (⟨Option.some.inj he, rfl⟩) dX5_fewestTooMany_54
    exact loopZ (Zh := (fun a_4 => Z X 0 p l e rm_X5_fewestTooMany s m args below meth c 0 0 (MQ below (QI X 0 r M s.heap.size) args s 0 0 (AA X 0 s.heap.size)) 4 M 4 [(0, .ref (X.2.2 87)), (1, .int a_4.1), (2, .int a_4.2)] [])) (fun a_4 x hb hc hr => p_X5_fewestTooMany_L4 S  hb hc (fun b hxe => by rw [hr b hxe]; exact hX)) FU _ hl
set_option maxRecDepth 100000 in
set_option maxHeartbeats 4000000 in
theorem K_X9_cannot {X : Cx} {l : Launch} {M : Mm} {r : Int32} {N : Mm}  (he : f_X9_cannot M  = some (r, N)) : KI X 0 l yX9_cannot (wz yX9_cannot cX9_cannot 1 (some .int)) rm_X9_cannot [.ref (X.2.2 1)] M r N := by
  intro sz
  refine K_of (Qc := (fun sz => QI X 0 r N sz)) (own := RX9) (lv0 := [(0, .ref (X.2.2 1))]) (by decide +kernel) rfl (Nat.le_of_ble_eq_true rfl) rfl (fun p e s m args below meth c S => ?_) sz
  · unfold f_X9_cannot at he
    refine z_aload_n S dX9_cannot_0 rfl 0 rfl ?_
    obtain ⟨M1, h9, he⟩ := bnd he
    refine z_cVV (As := []) S cv_RX9_252 (K_X9_pairUp  h9) ok_1 (by decide) (q := (RX9, TX9, 17)) rfl rfl ⟨rfl, rfl⟩ ⟨Nat.le_of_ble_eq_true rfl, Nat.le_of_ble_eq_true rfl⟩ ⟨Nat.le_refl _, Nat.le_refl _⟩ rfl rfl (Nat.le_of_ble_eq_true rfl) dX9_cannot_1 ?_
    refine z_aload_n S dX9_cannot_4 rfl 0 rfl ?_
    refine z_getF (j := 87) S fo_RX9_57 86 rfl rfl ok_1 dX9_cannot_5 ?_
    obtain ⟨r2, h9, he⟩ := bnd he
    refine z_cVI (As := []) S cv_RX9_269 (K_X5_fewestTooMany  h9) ok_87 (by decide) (q := (RX5, TX5, 5)) rfl rfl ⟨rfl, rfl⟩ ⟨Nat.le_of_ble_eq_true rfl, Nat.le_of_ble_eq_true rfl⟩ ⟨Nat.le_refl _, Nat.le_refl _⟩ rfl rfl (Nat.le_of_ble_eq_true rfl) dX9_cannot_8 ?_
    exact z_iret S (Prod.mk.inj (Option.some.inj he)) dX9_cannot_11
set_option maxRecDepth 100000 in
set_option maxHeartbeats 4000000 in
theorem K_X4_swapCells {X : Cx} {l : Launch} {M : Mm} {a0 : Nat} {a1 : Int32} {a2 : Int32} {N : Mm} (h_a0 : OK 0 a0 4) (he : f_X4_swapCells M a0 a1 a2 = some N) : KV X 0 l yX4_swapCells (wz yX4_swapCells cX4_swapCells 4 none) rm_X4_swapCells [.ref (X.2.2 a0), .int a1, .int a2] M N := by
  intro sz
  refine K_of (Qc := (fun sz => QV X 0 N sz)) (own := RX4) (lv0 := [(0, .ref (X.2.2 a0)), (1, .int a1), (2, .int a2)]) (by decide +kernel) rfl (Nat.le_of_ble_eq_true rfl) rfl (fun p e s m args below meth c S => ?_) sz
  · unfold f_X4_swapCells at he
    refine z_aload_n S dX4_swapCells_0 rfl 0 rfl ?_
    refine z_iload_n S dX4_swapCells_1 rfl 1 rfl ?_
    refine z_iconst (v := 0) S dX4_swapCells_2 (by decide) ?_
    obtain ⟨r1, h9, he⟩ := bnd he
    refine z_cVI (As := [.int a1, .int 0]) S cv_RX4_57 (K_X4_ofThing h_a0 h9) h_a0 (by decide) (q := (RX4, TX4, 10)) rfl rfl ⟨rfl, rfl⟩ ⟨Nat.le_of_ble_eq_true rfl, Nat.le_of_ble_eq_true rfl⟩ ⟨Nat.le_refl _, Nat.le_refl _⟩ rfl rfl (Nat.le_of_ble_eq_true rfl) dX4_swapCells_3 ?_
    refine z_istore_n (lv' := [(0, .ref (X.2.2 a0)), (1, .int a1), (2, .int a2), (3, .int r1)]) S [1, 2, 3, 0] dX4_swapCells_6 rfl (by decide) rfl ?_
    refine z_aload_n S dX4_swapCells_7 rfl 0 rfl ?_
    refine z_iload_n S dX4_swapCells_8 rfl 1 rfl ?_
    refine z_iconst (v := 0) S dX4_swapCells_9 (by decide) ?_
    refine z_aload_n S dX4_swapCells_10 rfl 0 rfl ?_
    refine z_iload_n S dX4_swapCells_11 rfl 2 rfl ?_
    refine z_iconst (v := 0) S dX4_swapCells_12 (by decide) ?_
    obtain ⟨r2, h9, he⟩ := bnd he
    refine z_cVI (As := [.int a2, .int 0]) S cv_RX4_57 (K_X4_ofThing h_a0 h9) h_a0 (by decide) (q := (RX4, TX4, 10)) rfl rfl ⟨rfl, rfl⟩ ⟨Nat.le_of_ble_eq_true rfl, Nat.le_of_ble_eq_true rfl⟩ ⟨Nat.le_refl _, Nat.le_refl _⟩ rfl rfl (Nat.le_of_ble_eq_true rfl) dX4_swapCells_13 ?_
    obtain ⟨M3, h9, he⟩ := bnd he
    refine z_cVV (As := [.int a1, .int 0, .int r2]) S cv_RX4_61 (K_X4_setThing h_a0 h9) h_a0 (by decide) (q := (RX4, TX4, 10)) rfl rfl ⟨rfl, rfl⟩ ⟨Nat.le_of_ble_eq_true rfl, Nat.le_of_ble_eq_true rfl⟩ ⟨Nat.le_refl _, Nat.le_refl _⟩ rfl rfl (Nat.le_of_ble_eq_true rfl) dX4_swapCells_16 ?_
    refine z_aload_n S dX4_swapCells_19 rfl 0 rfl ?_
    refine z_iload_n S dX4_swapCells_20 rfl 2 rfl ?_
    refine z_iconst (v := 0) S dX4_swapCells_21 (by decide) ?_
    refine z_iload_n S dX4_swapCells_22 rfl 3 rfl ?_
    obtain ⟨M4, h9, he⟩ := bnd he
    refine z_cVV (As := [.int a2, .int 0, .int r1]) S cv_RX4_61 (K_X4_setThing h_a0 h9) h_a0 (by decide) (q := (RX4, TX4, 10)) rfl rfl ⟨rfl, rfl⟩ ⟨Nat.le_of_ble_eq_true rfl, Nat.le_of_ble_eq_true rfl⟩ ⟨Nat.le_refl _, Nat.le_refl _⟩ rfl rfl (Nat.le_of_ble_eq_true rfl) dX4_swapCells_23 ?_
    exact z_vret S (Option.some.inj he) dX4_swapCells_26
set_option maxRecDepth 100000 in
set_option maxHeartbeats 4000000 in
theorem p_X9_change_L43 {X : Cx} {p : Program} {l : Launch} {e : Env} {s : State} {m : MethodId} {args : Array Value} {below : List Frame} {meth : Method} {c : Code} (S : SB X 0 p s m args meth c cX9_change 7 (some .int) RX9) {M : Mm} {N : Mm} {r : Int32} {v1 : Int32} {v2 : Int32} {v3 : Int32} {v4 : Int32} {v5 : Int32} {x : (Mm × Int32 × Int32 × Int32) ⊕ (Mm × Int32 × Int32)}  (he : f_X9_change_L43 M v1 v2 v3 v4 v5 = some x) (hc : ∀ b, x = .inl b → Z X 0 p l e rm_X9_change s m args below meth c 0 0 (MQ below (QI X 0 r N s.heap.size) args s 0 0 (AA X 0 s.heap.size)) 7 b.1 43 [(0, .ref (X.2.2 1)), (1, .int v1), (2, .int b.2.1), (3, .int b.2.2.1), (4, .int v4), (5, .int b.2.2.2)] []) (hx : ∀ b, x = .inr b → Z X 0 p l e rm_X9_change s m args below meth c 0 0 (MQ below (QI X 0 r N s.heap.size) args s 0 0 (AA X 0 s.heap.size)) 7 b.1 111 [(0, .ref (X.2.2 1)), (1, .int v1), (2, .int b.2.1), (3, .int b.2.2), (4, .int v4)] []) : Z X 0 p l e rm_X9_change s m args below meth c 0 0 (MQ below (QI X 0 r N s.heap.size) args s 0 0 (AA X 0 s.heap.size)) 7 M 43 [(0, .ref (X.2.2 1)), (1, .int v1), (2, .int v2), (3, .int v3), (4, .int v4), (5, .int v5)] [] := by
  unfold f_X9_change_L43 at he
  refine z_iload S dX9_change_43 5 rfl ?_
  refine z_aload_n S dX9_change_45 rfl 0 rfl ?_
  refine z_getGb (k2 := 4) S fo_RX9_20 rfl ok_1 (by decide) he dX9_change_46 (fun q8 hq8 he => ?_)
  refine z_getI S fo_RX9_191 rfl (okk4 hq8) dX9_change_49 ?_
  refine z_icmp_ge (tgt := 111) S he dX9_change_52 (by decide) (fun he => ?_) (fun he => ?_)
  · refine z_lv (ks := [0, 1, 2, 3, 4]) rfl ?_
    exact hx _ (Option.some.inj he).symm
  · refine z_aload_n S dX9_change_55 rfl 0 rfl ?_
    refine z_getGb (k2 := 4) S fo_RX9_24 rfl ok_1 (by decide) he dX9_change_56 (fun q9 hq9 he => ?_)
    refine z_iload S dX9_change_59 4 rfl ?_
    refine z_iload S dX9_change_61 5 rfl ?_
    obtain ⟨M10, h9, he⟩ := bnd he
    refine z_cVV (As := [.int v4, .int v5]) S cv_RX9_275 (K_X4_swapCells (okk4 hq9) h9) (okk4 hq9) (by decide) (q := (RX4, TX4, 10)) rfl rfl ⟨rfl, rfl⟩ ⟨Nat.le_of_ble_eq_true rfl, Nat.le_of_ble_eq_true rfl⟩ ⟨Nat.le_refl _, Nat.le_refl _⟩ rfl rfl (Nat.le_of_ble_eq_true rfl) dX9_change_63 ?_
    refine z_aload_n S dX9_change_66 rfl 0 rfl ?_
    refine z_aload_n S dX9_change_67 rfl 0 rfl ?_
    refine z_getGb (k2 := 4) S fo_RX9_24 rfl ok_1 (by decide) he dX9_change_68 (fun q11 hq11 he => ?_)
    obtain ⟨⟨r12, M13⟩, h9, he⟩ := bnd he
    dsimp only at he
    refine z_cVI (As := [.ref (X.2.2 q11)]) S cv_RX9_151 (K_X9_tomorrow (okk4 hq11) h9) ok_1 (by decide) (q := (RX9, TX9, 17)) rfl rfl ⟨rfl, rfl⟩ ⟨Nat.le_of_ble_eq_true rfl, Nat.le_of_ble_eq_true rfl⟩ ⟨Nat.le_refl _, Nat.le_refl _⟩ rfl rfl (Nat.le_of_ble_eq_true rfl) dX9_change_71 ?_
    refine z_istore (lv' := [(0, .ref (X.2.2 1)), (1, .int v1), (2, .int v2), (3, .int v3), (4, .int v4), (5, .int v5), (6, .int r12)]) S [1, 2, 3, 4, 5, 6, 0] dX9_change_74 (by decide) rfl ?_
    refine z_aload_n S dX9_change_76 rfl 0 rfl ?_
    refine z_getGb (k2 := 4) S fo_RX9_24 rfl ok_1 (by decide) he dX9_change_77 (fun q14 hq14 he => ?_)
    refine z_iload S dX9_change_80 4 rfl ?_
    refine z_iload S dX9_change_82 5 rfl ?_
    obtain ⟨M15, h9, he⟩ := bnd he
    refine z_cVV (As := [.int v4, .int v5]) S cv_RX9_275 (K_X4_swapCells (okk4 hq14) h9) (okk4 hq14) (by decide) (q := (RX4, TX4, 10)) rfl rfl ⟨rfl, rfl⟩ ⟨Nat.le_of_ble_eq_true rfl, Nat.le_of_ble_eq_true rfl⟩ ⟨Nat.le_refl _, Nat.le_refl _⟩ rfl rfl (Nat.le_of_ble_eq_true rfl) dX9_change_84 ?_
    refine z_iload S dX9_change_87 6 rfl ?_
    refine z_iload_n S dX9_change_89 rfl 2 rfl ?_
    refine z_icmp_le (tgt := 105) S he dX9_change_90 (by decide) (fun he => ?_) (fun he => ?_)
    · refine z_iinc (v := (v5 + 1)) (lv' := [(0, .ref (X.2.2 1)), (1, .int v1), (2, .int v2), (3, .int v3), (4, .int v4), (5, .int (v5 + 1)), (6, .int r12)]) S [1, 2, 3, 4, 5, 0, 6] 5 dX9_change_105 rfl (by rfl) (by decide) rfl ?_
      refine z_goto (tgt := 43) S dX9_change_108 (by decide) ?_
      refine z_lv (ks := [0, 1, 2, 3, 4, 5]) rfl ?_
      exact hc _ (Option.some.inj he).symm
    · refine z_iload S dX9_change_93 6 rfl ?_
      refine z_istore_n (lv' := [(0, .ref (X.2.2 1)), (1, .int v1), (2, .int r12), (4, .int v4), (5, .int v5)]) S [1, 2, 0, 4, 5] dX9_change_95 rfl (by decide) rfl ?_
      refine z_bipush (v := 10) S dX9_change_96 (by decide) ?_
      refine z_iload S dX9_change_98 3 rfl ?_
      refine z_imul S dX9_change_100 ?_
      refine z_iload S dX9_change_101 4 rfl ?_
      refine z_iadd S dX9_change_103 ?_
      refine z_istore_n (lv' := [(0, .ref (X.2.2 1)), (1, .int v1), (2, .int r12), (3, .int ((10 * v4) + v5)), (4, .int v4), (5, .int v5)]) S [1, 2, 3, 0, 4, 5] dX9_change_104 rfl (by decide) rfl ?_
      refine z_iinc (v := (v5 + 1)) (lv' := [(0, .ref (X.2.2 1)), (1, .int v1), (2, .int r12), (3, .int ((10 * v4) + v5)), (4, .int v4), (5, .int (v5 + 1))]) S [1, 2, 3, 4, 5, 0] 5 dX9_change_105 rfl (by rfl) (by decide) rfl ?_
      refine z_goto (tgt := 43) S dX9_change_108 (by decide) ?_
      refine z_lv (ks := [0, 1, 2, 3, 4, 5]) rfl ?_
      exact hc _ (Option.some.inj he).symm
set_option maxRecDepth 100000 in
set_option maxHeartbeats 4000000 in
theorem p_X9_change_L25 {X : Cx} {p : Program} {l : Launch} {e : Env} {s : State} {m : MethodId} {args : Array Value} {below : List Frame} {meth : Method} {c : Code} (S : SB X 0 p s m args meth c cX9_change 7 (some .int) RX9) {M : Mm} {N : Mm} {r : Int32} {v1 : Int32} {v2 : Int32} {v3 : Int32} {v4 : Int32} {x : (Mm × Int32 × Int32 × Int32) ⊕ (Mm × Int32 × Int32)}  (he : f_X9_change_L25 M v1 v2 v3 v4 = some x) (hc : ∀ b, x = .inl b → Z X 0 p l e rm_X9_change s m args below meth c 0 0 (MQ below (QI X 0 r N s.heap.size) args s 0 0 (AA X 0 s.heap.size)) 7 b.1 25 [(0, .ref (X.2.2 1)), (1, .int v1), (2, .int b.2.1), (3, .int b.2.2.1), (4, .int b.2.2.2)] []) (hx : ∀ b, x = .inr b → Z X 0 p l e rm_X9_change s m args below meth c 0 0 (MQ below (QI X 0 r N s.heap.size) args s 0 0 (AA X 0 s.heap.size)) 7 b.1 117 [(1, .int v1), (2, .int b.2.1), (3, .int b.2.2)] []) : Z X 0 p l e rm_X9_change s m args below meth c 0 0 (MQ below (QI X 0 r N s.heap.size) args s 0 0 (AA X 0 s.heap.size)) 7 M 25 [(0, .ref (X.2.2 1)), (1, .int v1), (2, .int v2), (3, .int v3), (4, .int v4)] [] := by
  unfold f_X9_change_L25 at he
  refine z_iload S dX9_change_25 4 rfl ?_
  refine z_aload_n S dX9_change_27 rfl 0 rfl ?_
  refine z_getGb (k2 := 4) S fo_RX9_20 rfl ok_1 (by decide) he dX9_change_28 (fun q7 hq7 he => ?_)
  refine z_getI S fo_RX9_191 rfl (okk4 hq7) dX9_change_31 ?_
  refine z_icmp_ge (tgt := 117) S he dX9_change_34 (by decide) (fun he => ?_) (fun he => ?_)
  · refine z_lv (ks := [1, 2, 3]) rfl ?_
    exact hx _ (Option.some.inj he).symm
  · refine z_iload S dX9_change_37 4 rfl ?_
    refine z_iconst (v := 1) S dX9_change_39 (by decide) ?_
    refine z_iadd S dX9_change_40 ?_
    refine z_istore (lv' := [(0, .ref (X.2.2 1)), (1, .int v1), (2, .int v2), (3, .int v3), (4, .int v4), (5, .int (v4 + 1))]) S [1, 2, 3, 4, 5, 0] dX9_change_41 (by decide) rfl ?_
    obtain ⟨e_16, hl, he⟩ := bnd he
    have hX : Z X 0 p l e rm_X9_change s m args below meth c 0 0 (MQ below (QI X 0 r N s.heap.size) args s 0 0 (AA X 0 s.heap.size)) 7 e_16.1 111 [(0, .ref (X.2.2 1)), (1, .int v1), (2, .int e_16.2.1), (3, .int e_16.2.2), (4, .int v4)] [] := by
      refine z_iinc (v := (v4 + 1)) (lv' := [(0, .ref (X.2.2 1)), (1, .int v1), (2, .int e_16.2.1), (3, .int e_16.2.2), (4, .int (v4 + 1))]) S [1, 2, 3, 4, 0] 4 dX9_change_111 rfl (by rfl) (by decide) rfl ?_
      refine z_goto (tgt := 25) S dX9_change_114 (by decide) ?_
      refine z_lv (ks := [0, 1, 2, 3, 4]) rfl ?_
      exact hc _ (Option.some.inj he).symm
    exact loopZ (Zh := (fun a_16 => Z X 0 p l e rm_X9_change s m args below meth c 0 0 (MQ below (QI X 0 r N s.heap.size) args s 0 0 (AA X 0 s.heap.size)) 7 a_16.1 43 [(0, .ref (X.2.2 1)), (1, .int v1), (2, .int a_16.2.1), (3, .int a_16.2.2.1), (4, .int v4), (5, .int a_16.2.2.2)] [])) (fun a_16 x hb hc hr => p_X9_change_L43 S  hb hc (fun b hxe => by rw [hr b hxe]; exact hX)) FU _ hl
set_option maxRecDepth 100000 in
set_option maxHeartbeats 4000000 in
theorem K_X9_change {X : Cx} {l : Launch} {M : Mm} {a1 : Int32} {r : Int32} {N : Mm}  (he : f_X9_change M a1 = some (r, N)) : KI X 0 l yX9_change (wz yX9_change cX9_change 7 (some .int)) rm_X9_change [.ref (X.2.2 1), .int a1] M r N := by
  intro sz
  refine K_of (Qc := (fun sz => QI X 0 r N sz)) (own := RX9) (lv0 := [(0, .ref (X.2.2 1)), (1, .int a1)]) (by decide +kernel) rfl (Nat.le_of_ble_eq_true rfl) rfl (fun p e s m args below meth c S => ?_) sz
  · unfold f_X9_change at he
    refine z_aload_n S dX9_change_0 rfl 0 rfl ?_
    refine z_aload_n S dX9_change_1 rfl 0 rfl ?_
    refine z_getGb (k2 := 4) S fo_RX9_20 rfl ok_1 (by decide) he dX9_change_2 (fun q1 hq1 he => ?_)
    obtain ⟨⟨r2, M3⟩, h9, he⟩ := bnd he
    dsimp only at he
    refine z_cVI (As := [.ref (X.2.2 q1)]) S cv_RX9_151 (K_X9_tomorrow (okk4 hq1) h9) ok_1 (by decide) (q := (RX9, TX9, 17)) rfl rfl ⟨rfl, rfl⟩ ⟨Nat.le_of_ble_eq_true rfl, Nat.le_of_ble_eq_true rfl⟩ ⟨Nat.le_refl _, Nat.le_refl _⟩ rfl rfl (Nat.le_of_ble_eq_true rfl) dX9_change_5 ?_
    refine z_istore_n (lv' := [(0, .ref (X.2.2 1)), (1, .int a1), (2, .int r2)]) S [1, 2, 0] dX9_change_8 rfl (by decide) rfl ?_
    refine z_iconst (v := (-1)) S dX9_change_9 (by decide) ?_
    refine z_istore_n (lv' := [(0, .ref (X.2.2 1)), (1, .int a1), (2, .int r2), (3, .int (-1))]) S [1, 2, 3, 0] dX9_change_10 rfl (by decide) rfl ?_
    refine z_aload_n S dX9_change_11 rfl 0 rfl ?_
    refine z_getGb (k2 := 4) S fo_RX9_24 rfl ok_1 (by decide) he dX9_change_12 (fun q4 hq4 he => ?_)
    refine z_aload_n S dX9_change_15 rfl 0 rfl ?_
    refine z_getGb (k2 := 4) S fo_RX9_20 rfl ok_1 (by decide) he dX9_change_16 (fun q5 hq5 he => ?_)
    obtain ⟨M6, h9, he⟩ := bnd he
    refine z_cVV (As := [.ref (X.2.2 q5)]) S cv_RX9_93 (K_X4_copyFrom (okk4 hq4) (okk4 hq5) h9) (okk4 hq4) (by decide) (q := (RX4, TX4, 10)) rfl rfl ⟨rfl, rfl⟩ ⟨Nat.le_of_ble_eq_true rfl, Nat.le_of_ble_eq_true rfl⟩ ⟨Nat.le_refl _, Nat.le_refl _⟩ rfl rfl (Nat.le_of_ble_eq_true rfl) dX9_change_19 ?_
    refine z_iconst (v := 0) S dX9_change_22 (by decide) ?_
    refine z_istore (lv' := [(0, .ref (X.2.2 1)), (1, .int a1), (2, .int r2), (3, .int (-1)), (4, .int 0)]) S [1, 2, 3, 4, 0] dX9_change_23 (by decide) rfl ?_
    obtain ⟨e_17, hl, he⟩ := bnd he
    have hX : Z X 0 p l e rm_X9_change s m args below meth c 0 0 (MQ below (QI X 0 r N s.heap.size) args s 0 0 (AA X 0 s.heap.size)) 7 e_17.1 117 [(1, .int a1), (2, .int e_17.2.1), (3, .int e_17.2.2)] [] := by
      refine z_iload_n S dX9_change_117 rfl 0 rfl ?_
      refine z_if_eq (tgt := 125) S he dX9_change_118 (by decide) (fun he => ?_) (fun he => ?_)
      · refine z_iload_n S dX9_change_125 rfl 2 rfl ?_
        exact z_iret S (Prod.mk.inj (Option.some.inj he)) dX9_change_126
      · refine z_iload_n S dX9_change_121 rfl 1 rfl ?_
        refine z_goto (tgt := 126) S dX9_change_122 (by decide) ?_
        exact z_iret S (Prod.mk.inj (Option.some.inj he)) dX9_change_126
    exact loopZ (Zh := (fun a_17 => Z X 0 p l e rm_X9_change s m args below meth c 0 0 (MQ below (QI X 0 r N s.heap.size) args s 0 0 (AA X 0 s.heap.size)) 7 a_17.1 25 [(0, .ref (X.2.2 1)), (1, .int a1), (2, .int a_17.2.1), (3, .int a_17.2.2.1), (4, .int a_17.2.2.2)] [])) (fun a_17 x hb hc hr => p_X9_change_L25 S  hb hc (fun b hxe => by rw [hr b hxe]; exact hX)) FU _ hl
set_option maxRecDepth 100000 in
set_option maxHeartbeats 4000000 in
theorem K_X10_swap {X : Cx} {l : Launch} {M : Mm} {a1 : Int32} {a2 : Int32} {N : Mm}  (he : f_X10_swap M a1 a2 = some N) : KV X 1 l yX10_swap (wz yX10_swap cX10_swap 4 none) rm_X10_swap [.ref (X.2.2 200), .int a1, .int a2] M N := by
  intro sz
  refine K_of (Qc := (fun sz => QV X 1 N sz)) (own := RX10) (lv0 := [(0, .ref (X.2.2 200)), (1, .int a1), (2, .int a2)]) (by decide +kernel) rfl (Nat.le_of_ble_eq_true rfl) rfl (fun p e s m args below meth c S => ?_) sz
  · unfold f_X10_swap at he
    refine z_aload_n S dX10_swap_0 rfl 0 rfl ?_
    refine z_iload_n S dX10_swap_1 rfl 1 rfl ?_
    refine z_iconst (v := 0) S dX10_swap_2 (by decide) ?_
    obtain ⟨r1, h9, he⟩ := bnd he
    refine z_cVI (As := [.int a1, .int 0]) S cv_RX10_70 (K_X10_of  h9) ok_200 (by decide) (q := (RX10, TX10, 28)) rfl rfl ⟨rfl, rfl⟩ ⟨Nat.le_of_ble_eq_true rfl, Nat.le_of_ble_eq_true rfl⟩ ⟨Nat.le_refl _, Nat.le_refl _⟩ rfl rfl (Nat.le_of_ble_eq_true rfl) dX10_swap_3 ?_
    refine z_istore_n (lv' := [(0, .ref (X.2.2 200)), (1, .int a1), (2, .int a2), (3, .int r1)]) S [1, 2, 3, 0] dX10_swap_6 rfl (by decide) rfl ?_
    refine z_aload_n S dX10_swap_7 rfl 0 rfl ?_
    refine z_getF (j := 201) S fo_RX10_7 1 rfl rfl ok_200 dX10_swap_8 ?_
    refine z_bipush (v := 12) S dX10_swap_11 (by decide) ?_
    refine z_iconst (v := 5) S dX10_swap_13 (by decide) ?_
    refine z_iload_n S dX10_swap_14 rfl 1 rfl ?_
    refine z_imul S dX10_swap_15 ?_
    refine z_iadd S dX10_swap_16 ?_
    refine z_iconst (v := 0) S dX10_swap_17 (by decide) ?_
    refine z_iadd S dX10_swap_18 ?_
    refine z_aload_n S dX10_swap_19 rfl 0 rfl ?_
    refine z_iload_n S dX10_swap_20 rfl 2 rfl ?_
    refine z_iconst (v := 0) S dX10_swap_21 (by decide) ?_
    obtain ⟨r2, h9, he⟩ := bnd he
    refine z_cVI (As := [.int a2, .int 0]) S cv_RX10_70 (K_X10_of  h9) ok_200 (by decide) (q := (RX10, TX10, 28)) rfl rfl ⟨rfl, rfl⟩ ⟨Nat.le_of_ble_eq_true rfl, Nat.le_of_ble_eq_true rfl⟩ ⟨Nat.le_refl _, Nat.le_refl _⟩ rfl rfl (Nat.le_of_ble_eq_true rfl) dX10_swap_22 ?_
    refine z_iastb S ok_201 rfl he dX10_swap_25 (fun M3 he => ?_)
    refine z_aload_n S dX10_swap_26 rfl 0 rfl ?_
    refine z_getF (j := 201) S fo_RX10_7 1 rfl rfl ok_200 dX10_swap_27 ?_
    refine z_bipush (v := 12) S dX10_swap_30 (by decide) ?_
    refine z_iconst (v := 5) S dX10_swap_32 (by decide) ?_
    refine z_iload_n S dX10_swap_33 rfl 2 rfl ?_
    refine z_imul S dX10_swap_34 ?_
    refine z_iadd S dX10_swap_35 ?_
    refine z_iconst (v := 0) S dX10_swap_36 (by decide) ?_
    refine z_iadd S dX10_swap_37 ?_
    refine z_iload_n S dX10_swap_38 rfl 3 rfl ?_
    refine z_iastb S ok_201 rfl he dX10_swap_39 (fun M4 he => ?_)
    exact z_vret S (Option.some.inj he) dX10_swap_40
set_option maxRecDepth 100000 in
set_option maxHeartbeats 4000000 in
theorem p_X6_likedBy_L4 {X : Cx} {p : Program} {l : Launch} {e : Env} {s : State} {m : MethodId} {args : Array Value} {below : List Frame} {meth : Method} {c : Code} (S : SB X 0 p s m args meth c cX6_likedBy 4 (some .int) RX6) {M : Mm} {r : Int32} {v1 : Int32} {v2 : Int32} {v3 : Int32} {x : (Int32 × Int32) ⊕ Int32}  (he : f_X6_likedBy_L4 M v1 v2 v3 = some x) (hc : ∀ b, x = .inl b → Z X 0 p l e rm_X6_likedBy s m args below meth c 0 0 (MQ below (QI X 0 r M s.heap.size) args s 0 0 (AA X 0 s.heap.size)) 4 M 4 [(0, .ref (X.2.2 82)), (1, .int v1), (2, .int b.1), (3, .int b.2)] []) (hx : ∀ b, x = .inr b → Z X 0 p l e rm_X6_likedBy s m args below meth c 0 0 (MQ below (QI X 0 r M s.heap.size) args s 0 0 (AA X 0 s.heap.size)) 4 M 37 [(2, .int b)] []) : Z X 0 p l e rm_X6_likedBy s m args below meth c 0 0 (MQ below (QI X 0 r M s.heap.size) args s 0 0 (AA X 0 s.heap.size)) 4 M 4 [(0, .ref (X.2.2 82)), (1, .int v1), (2, .int v2), (3, .int v3)] [] := by
  unfold f_X6_likedBy_L4 at he
  refine z_iload_n S dX6_likedBy_4 rfl 3 rfl ?_
  refine z_bipush (v := 10) S dX6_likedBy_5 (by decide) ?_
  refine z_icmp_ge (tgt := 37) S he dX6_likedBy_7 (by decide) (fun he => ?_) (fun he => ?_)
  · refine z_lv (ks := [2]) rfl ?_
    exact hx _ (Option.some.inj he).symm
  · refine z_aload_n S dX6_likedBy_10 rfl 0 rfl ?_
    refine z_getF (j := 85) S fo_RX6_18 3 rfl rfl ok_82 dX6_likedBy_11 ?_
    refine z_iload_n S dX6_likedBy_14 rfl 3 rfl ?_
    obtain ⟨r1, h9, he⟩ := bnd he
    refine z_cNI (As := [.ref (X.2.2 85), .int v3]) S cn_RX6_55 (K_X9_at ok_85 h9) ⟨rfl, rfl⟩ ⟨Nat.le_of_ble_eq_true rfl, Nat.le_of_ble_eq_true rfl⟩ ⟨Nat.le_refl _, Nat.le_refl _⟩ rfl rfl (Nat.le_of_ble_eq_true rfl) dX6_likedBy_15 ?_
    refine z_iload_n S dX6_likedBy_18 rfl 1 rfl ?_
    refine z_icmp_ne (tgt := 31) S he dX6_likedBy_19 (by decide) (fun he => ?_) (fun he => ?_)
    · refine z_iinc (v := (v3 + 1)) (lv' := [(0, .ref (X.2.2 82)), (1, .int v1), (2, .int v2), (3, .int (v3 + 1))]) S [1, 2, 3, 0] 3 dX6_likedBy_31 rfl (by rfl) (by decide) rfl ?_
      refine z_goto (tgt := 4) S dX6_likedBy_34 (by decide) ?_
      refine z_lv (ks := [0, 1, 2, 3]) rfl ?_
      exact hc _ (Option.some.inj he).symm
    · refine z_iload_n S dX6_likedBy_22 rfl 2 rfl ?_
      refine z_aload_n S dX6_likedBy_23 rfl 0 rfl ?_
      refine z_iload_n S dX6_likedBy_24 rfl 1 rfl ?_
      refine z_iload_n S dX6_likedBy_25 rfl 3 rfl ?_
      obtain ⟨r2, h9, he⟩ := bnd he
      refine z_cVI (As := [.int v1, .int v3]) S cv_RX6_47 (K_X6_likes  h9) ok_82 (by decide) (q := (RX6, TX6, 4)) rfl rfl ⟨rfl, rfl⟩ ⟨Nat.le_of_ble_eq_true rfl, Nat.le_of_ble_eq_true rfl⟩ ⟨Nat.le_refl _, Nat.le_refl _⟩ rfl rfl (Nat.le_of_ble_eq_true rfl) dX6_likedBy_26 ?_
      refine z_iadd S dX6_likedBy_29 ?_
      refine z_istore_n (lv' := [(0, .ref (X.2.2 82)), (1, .int v1), (2, .int (v2 + r2)), (3, .int v3)]) S [1, 2, 0, 3] dX6_likedBy_30 rfl (by decide) rfl ?_
      refine z_iinc (v := (v3 + 1)) (lv' := [(0, .ref (X.2.2 82)), (1, .int v1), (2, .int (v2 + r2)), (3, .int (v3 + 1))]) S [1, 2, 3, 0] 3 dX6_likedBy_31 rfl (by rfl) (by decide) rfl ?_
      refine z_goto (tgt := 4) S dX6_likedBy_34 (by decide) ?_
      refine z_lv (ks := [0, 1, 2, 3]) rfl ?_
      exact hc _ (Option.some.inj he).symm
set_option maxRecDepth 100000 in
set_option maxHeartbeats 4000000 in
theorem K_X6_likedBy {X : Cx} {l : Launch} {M : Mm} {a1 : Int32} {r : Int32}  (he : f_X6_likedBy M a1 = some r) : KI X 0 l yX6_likedBy (wz yX6_likedBy cX6_likedBy 4 (some .int)) rm_X6_likedBy [.ref (X.2.2 82), .int a1] M r M := by
  intro sz
  refine K_of (Qc := (fun sz => QI X 0 r M sz)) (own := RX6) (lv0 := [(0, .ref (X.2.2 82)), (1, .int a1)]) (by decide +kernel) rfl (Nat.le_of_ble_eq_true rfl) rfl (fun p e s m args below meth c S => ?_) sz
  · unfold f_X6_likedBy at he
    refine z_iconst (v := 0) S dX6_likedBy_0 (by decide) ?_
    refine z_istore_n (lv' := [(0, .ref (X.2.2 82)), (1, .int a1), (2, .int 0)]) S [1, 2, 0] dX6_likedBy_1 rfl (by decide) rfl ?_
    refine z_iconst (v := 0) S dX6_likedBy_2 (by decide) ?_
    refine z_istore_n (lv' := [(0, .ref (X.2.2 82)), (1, .int a1), (2, .int 0), (3, .int 0)]) S [1, 2, 3, 0] dX6_likedBy_3 rfl (by decide) rfl ?_
    obtain ⟨e_3, hl, he⟩ := bnd he
    have hX : Z X 0 p l e rm_X6_likedBy s m args below meth c 0 0 (MQ below (QI X 0 r M s.heap.size) args s 0 0 (AA X 0 s.heap.size)) 4 M 37 [(2, .int e_3)] [] := by
      refine z_iload_n S dX6_likedBy_37 rfl 0 rfl ?_
      exact z_iret S (⟨Option.some.inj he, rfl⟩) dX6_likedBy_38
    exact loopZ (Zh := (fun a_3 => Z X 0 p l e rm_X6_likedBy s m args below meth c 0 0 (MQ below (QI X 0 r M s.heap.size) args s 0 0 (AA X 0 s.heap.size)) 4 M 4 [(0, .ref (X.2.2 82)), (1, .int a1), (2, .int a_3.1), (3, .int a_3.2)] [])) (fun a_3 x hb hc hr => p_X6_likedBy_L4 S  hb hc (fun b hxe => by rw [hr b hxe]; exact hX)) FU _ hl
set_option maxRecDepth 100000 in
set_option maxHeartbeats 4000000 in
theorem p_X5_ringAllFor_L2 {X : Cx} {p : Program} {l : Launch} {e : Env} {s : State} {m : MethodId} {args : Array Value} {below : List Frame} {meth : Method} {c : Code} (S : SB X 0 p s m args meth c cX5_ringAllFor 4 (some .boolean) RX5) {M : Mm} {r : Bool} {v1 : Int32} {v2 : Int32} {x : Int32 ⊕ ((Bool) ⊕ Unit)}  (he : f_X5_ringAllFor_L2 M v1 v2 = some x) (hc : ∀ b, x = .inl b → Z X 0 p l e rm_X5_ringAllFor s m args below meth c 0 0 (MQ below (QI X 0 (bI r) M s.heap.size) args s 0 0 (AA X 0 s.heap.size)) 4 M 2 [(0, .ref (X.2.2 87)), (1, .int v1), (2, .int b)] []) (hx : ∀ b, x = .inr (.inr b) → Z X 0 p l e rm_X5_ringAllFor s m args below meth c 0 0 (MQ below (QI X 0 (bI r) M s.heap.size) args s 0 0 (AA X 0 s.heap.size)) 4 M 37 [] []) (hr : ∀ v, x = .inr (.inl v) → v = r) : Z X 0 p l e rm_X5_ringAllFor s m args below meth c 0 0 (MQ below (QI X 0 (bI r) M s.heap.size) args s 0 0 (AA X 0 s.heap.size)) 4 M 2 [(0, .ref (X.2.2 87)), (1, .int v1), (2, .int v2)] [] := by
  unfold f_X5_ringAllFor_L2 at he
  refine z_iload_n S dX5_ringAllFor_2 rfl 2 rfl ?_
  refine z_aload_n S dX5_ringAllFor_3 rfl 0 rfl ?_
  refine z_getI S fo_RX5_24 rfl ok_87 dX5_ringAllFor_4 ?_
  refine z_icmp_ge (tgt := 37) S he dX5_ringAllFor_7 (by decide) (fun he => ?_) (fun he => ?_)
  · refine z_lv (ks := []) rfl ?_
    exact hx _ (Option.some.inj he).symm
  · refine z_aload_n S dX5_ringAllFor_10 rfl 0 rfl ?_
    refine z_getF (j := 88) S fo_RX5_9 1 rfl rfl ok_87 dX5_ringAllFor_11 ?_
    refine z_iload_n S dX5_ringAllFor_14 rfl 2 rfl ?_
    obtain ⟨r1, h9, he⟩ := bnd he
    refine z_cNI (As := [.ref (X.2.2 88), .int v2]) S cn_RX5_35 (K_X9_at ok_88 h9) ⟨rfl, rfl⟩ ⟨Nat.le_of_ble_eq_true rfl, Nat.le_of_ble_eq_true rfl⟩ ⟨Nat.le_refl _, Nat.le_refl _⟩ rfl rfl (Nat.le_of_ble_eq_true rfl) dX5_ringAllFor_15 ?_
    refine z_istore_n (lv' := [(0, .ref (X.2.2 87)), (1, .int v1), (2, .int v2), (3, .int r1)]) S [1, 2, 3, 0] dX5_ringAllFor_18 rfl (by decide) rfl ?_
    refine z_iload_n S dX5_ringAllFor_19 rfl 3 rfl ?_
    refine z_if_eq (tgt := 31) S he dX5_ringAllFor_20 (by decide) (fun he => ?_) (fun he => ?_)
    · refine z_iinc (v := (v2 + 1)) (lv' := [(0, .ref (X.2.2 87)), (1, .int v1), (2, .int (v2 + 1)), (3, .int r1)]) S [1, 2, 0, 3] 2 dX5_ringAllFor_31 rfl (by rfl) (by decide) rfl ?_
      refine z_goto (tgt := 2) S dX5_ringAllFor_34 (by decide) ?_
      refine z_lv (ks := [0, 1, 2]) rfl ?_
      exact hc _ (Option.some.inj he).symm
    · refine z_iload_n S dX5_ringAllFor_23 rfl 3 rfl ?_
      refine z_iload_n S dX5_ringAllFor_24 rfl 1 rfl ?_
      refine z_iand S dX5_ringAllFor_25 ?_
      refine z_if_ne (tgt := 31) S he dX5_ringAllFor_26 (by decide) (fun he => ?_) (fun he => ?_)
      · refine z_iinc (v := (v2 + 1)) (lv' := [(0, .ref (X.2.2 87)), (1, .int v1), (2, .int (v2 + 1)), (3, .int r1)]) S [1, 2, 0, 3] 2 dX5_ringAllFor_31 rfl (by rfl) (by decide) rfl ?_
        refine z_goto (tgt := 2) S dX5_ringAllFor_34 (by decide) ?_
        refine z_lv (ks := [0, 1, 2]) rfl ?_
        exact hc _ (Option.some.inj he).symm
      · refine z_iconst (v := 0) S dX5_ringAllFor_29 (by decide) ?_
        exact z_zret0 S (⟨hr _ (Option.some.inj he).symm, rfl⟩) dX5_ringAllFor_30
set_option maxRecDepth 100000 in
set_option maxHeartbeats 4000000 in
theorem K_X5_ringAllFor {X : Cx} {l : Launch} {M : Mm} {a1 : Int32} {r : Bool}  (he : f_X5_ringAllFor M a1 = some r) : KI X 0 l yX5_ringAllFor (wz yX5_ringAllFor cX5_ringAllFor 4 (some .boolean)) rm_X5_ringAllFor [.ref (X.2.2 87), .int a1] M (bI r) M := by
  intro sz
  refine K_of (Qc := (fun sz => QI X 0 (bI r) M sz)) (own := RX5) (lv0 := [(0, .ref (X.2.2 87)), (1, .int a1)]) (by decide +kernel) rfl (Nat.le_of_ble_eq_true rfl) rfl (fun p e s m args below meth c S => ?_) sz
  · unfold f_X5_ringAllFor at he
    refine z_iconst (v := 0) S dX5_ringAllFor_0 (by decide) ?_
    refine z_istore_n (lv' := [(0, .ref (X.2.2 87)), (1, .int a1), (2, .int 0)]) S [1, 2, 0] dX5_ringAllFor_1 rfl (by decide) rfl ?_
    obtain ⟨r9, hl, hr1, hr2⟩ := bndS he
    have hX : ∀ e_2, r9 = .inr e_2 → Z X 0 p l e rm_X5_ringAllFor s m args below meth c 0 0 (MQ below (QI X 0 (bI r) M s.heap.size) args s 0 0 (AA X 0 s.heap.size)) 4 M 37 [] [] := by
      intro e_2 hre
      have he := hr2 e_2 hre
      refine z_iconst (v := 1) S dX5_ringAllFor_37 (by decide) ?_
      exact z_zret1 S (⟨Option.some.inj he, rfl⟩) dX5_ringAllFor_38
    exact loopZ (Zh := (fun a_2 => Z X 0 p l e rm_X5_ringAllFor s m args below meth c 0 0 (MQ below (QI X 0 (bI r) M s.heap.size) args s 0 0 (AA X 0 s.heap.size)) 4 M 2 [(0, .ref (X.2.2 87)), (1, .int a1), (2, .int a_2)] [])) (fun a_2 x hb hc hr9 => p_X5_ringAllFor_L2 S  hb hc (fun b hxe => hX b (hr9 _ hxe).symm) (fun v hxv => Option.some.inj (hr1 v (hr9 _ hxv).symm))) FU _ hl
set_option maxRecDepth 100000 in
set_option maxHeartbeats 4000000 in
theorem p_X5_fewestForAll_L9 {X : Cx} {p : Program} {l : Launch} {e : Env} {s : State} {m : MethodId} {args : Array Value} {below : List Frame} {meth : Method} {c : Code} (S : SB X 0 p s m args meth c cX5_fewestForAll 3 (some .int) RX5) {M : Mm} {r : Int32} {v1 : Int32} {v2 : Int32} {x : (Int32 × Int32) ⊕ Int32}  (he : f_X5_fewestForAll_L9 M v1 v2 = some x) (hc : ∀ b, x = .inl b → Z X 0 p l e rm_X5_fewestForAll s m args below meth c 0 0 (MQ below (QI X 0 r M s.heap.size) args s 0 0 (AA X 0 s.heap.size)) 3 M 9 [(0, .ref (X.2.2 87)), (1, .int b.1), (2, .int b.2)] []) (hx : ∀ b, x = .inr b → Z X 0 p l e rm_X5_fewestForAll s m args below meth c 0 0 (MQ below (QI X 0 r M s.heap.size) args s 0 0 (AA X 0 s.heap.size)) 3 M 44 [(1, .int b)] []) : Z X 0 p l e rm_X5_fewestForAll s m args below meth c 0 0 (MQ below (QI X 0 r M s.heap.size) args s 0 0 (AA X 0 s.heap.size)) 3 M 9 [(0, .ref (X.2.2 87)), (1, .int v1), (2, .int v2)] [] := by
  unfold f_X5_fewestForAll_L9 at he
  refine z_iload_n S dX5_fewestForAll_9 rfl 2 rfl ?_
  refine z_aload_n S dX5_fewestForAll_10 rfl 0 rfl ?_
  refine z_getI S fo_RX5_29 rfl ok_87 dX5_fewestForAll_11 ?_
  refine z_icmp_ge (tgt := 44) S he dX5_fewestForAll_14 (by decide) (fun he => ?_) (fun he => ?_)
  · refine z_lv (ks := [1]) rfl ?_
    exact hx _ (Option.some.inj he).symm
  · refine z_iload_n S dX5_fewestForAll_17 rfl 2 rfl ?_
    obtain ⟨r1, h9, he⟩ := bnd he
    refine z_cSI (As := [.int v2]) S cs_RX5_47 (K_J6_bitCount_0f7a4  h9) ⟨rfl, rfl⟩ ⟨Nat.le_of_ble_eq_true rfl, Nat.le_of_ble_eq_true rfl⟩ ⟨Nat.le_refl _, Nat.le_refl _⟩ rfl rfl (Nat.le_of_ble_eq_true rfl) dX5_fewestForAll_18 ?_
    refine z_iload_n S dX5_fewestForAll_21 rfl 1 rfl ?_
    obtain ⟨r2, h9, he⟩ := bnd he
    refine z_cSI (As := [.int v1]) S cs_RX5_47 (K_J6_bitCount_0f7a4  h9) ⟨rfl, rfl⟩ ⟨Nat.le_of_ble_eq_true rfl, Nat.le_of_ble_eq_true rfl⟩ ⟨Nat.le_refl _, Nat.le_refl _⟩ rfl rfl (Nat.le_of_ble_eq_true rfl) dX5_fewestForAll_22 ?_
    refine z_icmp_ge (tgt := 38) S he dX5_fewestForAll_25 (by decide) (fun he => ?_) (fun he => ?_)
    · refine z_iinc (v := (v2 + 1)) (lv' := [(0, .ref (X.2.2 87)), (1, .int v1), (2, .int (v2 + 1))]) S [1, 2, 0] 2 dX5_fewestForAll_38 rfl (by rfl) (by decide) rfl ?_
      refine z_goto (tgt := 9) S dX5_fewestForAll_41 (by decide) ?_
      refine z_lv (ks := [0, 1, 2]) rfl ?_
      exact hc _ (Option.some.inj he).symm
    · refine z_aload_n S dX5_fewestForAll_28 rfl 0 rfl ?_
      refine z_iload_n S dX5_fewestForAll_29 rfl 2 rfl ?_
      obtain ⟨r3, h9, he⟩ := bnd he
      refine z_cVI (As := [.int v2]) S cv_RX5_61 (K_X5_ringAllFor  h9) ok_87 (by decide) (q := (RX5, TX5, 5)) rfl rfl ⟨rfl, rfl⟩ ⟨Nat.le_of_ble_eq_true rfl, Nat.le_of_ble_eq_true rfl⟩ ⟨Nat.le_refl _, Nat.le_refl _⟩ rfl rfl (Nat.le_of_ble_eq_true rfl) dX5_fewestForAll_30 ?_
      refine z_ifb_eq (tgt := 38) S he dX5_fewestForAll_33 (by decide) (fun he => ?_) (fun he => ?_)
      · refine z_iinc (v := (v2 + 1)) (lv' := [(0, .ref (X.2.2 87)), (1, .int v1), (2, .int (v2 + 1))]) S [1, 2, 0] 2 dX5_fewestForAll_38 rfl (by rfl) (by decide) rfl ?_
        refine z_goto (tgt := 9) S dX5_fewestForAll_41 (by decide) ?_
        refine z_lv (ks := [0, 1, 2]) rfl ?_
        exact hc _ (Option.some.inj he).symm
      · refine z_iload_n S dX5_fewestForAll_36 rfl 2 rfl ?_
        refine z_istore_n (lv' := [(0, .ref (X.2.2 87)), (1, .int v2), (2, .int v2)]) S [1, 0, 2] dX5_fewestForAll_37 rfl (by decide) rfl ?_
        refine z_iinc (v := (v2 + 1)) (lv' := [(0, .ref (X.2.2 87)), (1, .int v2), (2, .int (v2 + 1))]) S [1, 2, 0] 2 dX5_fewestForAll_38 rfl (by rfl) (by decide) rfl ?_
        refine z_goto (tgt := 9) S dX5_fewestForAll_41 (by decide) ?_
        refine z_lv (ks := [0, 1, 2]) rfl ?_
        exact hc _ (Option.some.inj he).symm
set_option maxRecDepth 100000 in
set_option maxHeartbeats 4000000 in
theorem K_X5_fewestForAll {X : Cx} {l : Launch} {M : Mm} {r : Int32}  (he : f_X5_fewestForAll M  = some r) : KI X 0 l yX5_fewestForAll (wz yX5_fewestForAll cX5_fewestForAll 3 (some .int)) rm_X5_fewestForAll [.ref (X.2.2 87)] M r M := by
  intro sz
  refine K_of (Qc := (fun sz => QI X 0 r M sz)) (own := RX5) (lv0 := [(0, .ref (X.2.2 87))]) (by decide +kernel) rfl (Nat.le_of_ble_eq_true rfl) rfl (fun p e s m args below meth c S => ?_) sz
  · unfold f_X5_fewestForAll at he
    refine z_aload_n S dX5_fewestForAll_0 rfl 0 rfl ?_
    refine z_getI S fo_RX5_29 rfl ok_87 dX5_fewestForAll_1 ?_
    refine z_iconst (v := 1) S dX5_fewestForAll_4 (by decide) ?_
    refine z_isub S dX5_fewestForAll_5 ?_
    refine z_istore_n (lv' := [(0, .ref (X.2.2 87)), (1, .int ((gI M 87 4) - 1))]) S [1, 0] dX5_fewestForAll_6 rfl (by decide) rfl ?_
    refine z_iconst (v := 0) S dX5_fewestForAll_7 (by decide) ?_
    refine z_istore_n (lv' := [(0, .ref (X.2.2 87)), (1, .int ((gI M 87 4) - 1)), (2, .int 0)]) S [1, 2, 0] dX5_fewestForAll_8 rfl (by decide) rfl ?_
    obtain ⟨e_4, hl, he⟩ := bnd he
    have hX : Z X 0 p l e rm_X5_fewestForAll s m args below meth c 0 0 (MQ below (QI X 0 r M s.heap.size) args s 0 0 (AA X 0 s.heap.size)) 3 M 44 [(1, .int e_4)] [] := by
      refine z_iload_n S dX5_fewestForAll_44 rfl 0 rfl ?_
      exact z_iret S (⟨Option.some.inj he, rfl⟩) dX5_fewestForAll_45
    exact loopZ (Zh := (fun a_4 => Z X 0 p l e rm_X5_fewestForAll s m args below meth c 0 0 (MQ below (QI X 0 r M s.heap.size) args s 0 0 (AA X 0 s.heap.size)) 3 M 9 [(0, .ref (X.2.2 87)), (1, .int a_4.1), (2, .int a_4.2)] [])) (fun a_4 x hb hc hr => p_X5_fewestForAll_L9 S  hb hc (fun b hxe => by rw [hr b hxe]; exact hX)) FU _ hl
set_option maxRecDepth 100000 in
set_option maxHeartbeats 4000000 in
theorem K_X9_fewest {X : Cx} {l : Launch} {M : Mm} {r : Int32} {N : Mm}  (he : f_X9_fewest M  = some (r, N)) : KI X 0 l yX9_fewest (wz yX9_fewest cX9_fewest 1 (some .int)) rm_X9_fewest [.ref (X.2.2 1)] M r N := by
  intro sz
  refine K_of (Qc := (fun sz => QI X 0 r N sz)) (own := RX9) (lv0 := [(0, .ref (X.2.2 1))]) (by decide +kernel) rfl (Nat.le_of_ble_eq_true rfl) rfl (fun p e s m args below meth c S => ?_) sz
  · unfold f_X9_fewest at he
    refine z_aload_n S dX9_fewest_0 rfl 0 rfl ?_
    obtain ⟨M1, h9, he⟩ := bnd he
    refine z_cVV (As := []) S cv_RX9_252 (K_X9_pairUp  h9) ok_1 (by decide) (q := (RX9, TX9, 17)) rfl rfl ⟨rfl, rfl⟩ ⟨Nat.le_of_ble_eq_true rfl, Nat.le_of_ble_eq_true rfl⟩ ⟨Nat.le_refl _, Nat.le_refl _⟩ rfl rfl (Nat.le_of_ble_eq_true rfl) dX9_fewest_1 ?_
    refine z_aload_n S dX9_fewest_4 rfl 0 rfl ?_
    refine z_getF (j := 87) S fo_RX9_57 86 rfl rfl ok_1 dX9_fewest_5 ?_
    obtain ⟨r2, h9, he⟩ := bnd he
    refine z_cVI (As := []) S cv_RX9_284 (K_X5_fewestForAll  h9) ok_87 (by decide) (q := (RX5, TX5, 5)) rfl rfl ⟨rfl, rfl⟩ ⟨Nat.le_of_ble_eq_true rfl, Nat.le_of_ble_eq_true rfl⟩ ⟨Nat.le_refl _, Nat.le_refl _⟩ rfl rfl (Nat.le_of_ble_eq_true rfl) dX9_fewest_8 ?_
    exact z_iret S (Prod.mk.inj (Option.some.inj he)) dX9_fewest_11
set_option maxRecDepth 100000 in
set_option maxHeartbeats 4000000 in
theorem p_X9_alone_L19 {X : Cx} {p : Program} {l : Launch} {e : Env} {s : State} {m : MethodId} {args : Array Value} {below : List Frame} {meth : Method} {c : Code} (S : SB X 0 p s m args meth c cX9_alone 3 (some .int) RX9) {M : Mm} {N : Mm} {r : Int32} {v1 : Int32} {v2 : Int32} {x : (Int32 × Int32) ⊕ Int32}  (he : f_X9_alone_L19 M v1 v2 = some x) (hc : ∀ b, x = .inl b → Z X 0 p l e rm_X9_alone s m args below meth c 0 0 (MQ below (QI X 0 r N s.heap.size) args s 0 0 (AA X 0 s.heap.size)) 3 M 19 [(0, .ref (X.2.2 1)), (1, .int b.1), (2, .int b.2)] []) (hx : ∀ b, x = .inr b → Z X 0 p l e rm_X9_alone s m args below meth c 0 0 (MQ below (QI X 0 r N s.heap.size) args s 0 0 (AA X 0 s.heap.size)) 3 M 56 [(1, .int b)] []) : Z X 0 p l e rm_X9_alone s m args below meth c 0 0 (MQ below (QI X 0 r N s.heap.size) args s 0 0 (AA X 0 s.heap.size)) 3 M 19 [(0, .ref (X.2.2 1)), (1, .int v1), (2, .int v2)] [] := by
  unfold f_X9_alone_L19 at he
  refine z_iload_n S dX9_alone_19 rfl 2 rfl ?_
  refine z_aload_n S dX9_alone_20 rfl 0 rfl ?_
  refine z_getGb (k2 := 4) S fo_RX9_20 rfl ok_1 (by decide) he dX9_alone_21 (fun q4 hq4 he => ?_)
  refine z_getI S fo_RX9_191 rfl (okk4 hq4) dX9_alone_24 ?_
  refine z_icmp_ge (tgt := 56) S he dX9_alone_27 (by decide) (fun he => ?_) (fun he => ?_)
  · refine z_lv (ks := [1]) rfl ?_
    exact hx _ (Option.some.inj he).symm
  · refine z_aload_n S dX9_alone_30 rfl 0 rfl ?_
    refine z_getF (j := 82) S fo_RX9_50 81 rfl rfl ok_1 dX9_alone_31 ?_
    refine z_getF (j := 84) S fo_RX9_155 2 rfl rfl ok_82 dX9_alone_34 ?_
    refine z_iload_n S dX9_alone_37 rfl 2 rfl ?_
    obtain ⟨r5, h9, he⟩ := bnd he
    refine z_cSI (As := [.ref (X.2.2 84), .int v2]) S cs_RX9_158 (K_X9_at ok_84 h9) ⟨rfl, rfl⟩ ⟨Nat.le_of_ble_eq_true rfl, Nat.le_of_ble_eq_true rfl⟩ ⟨Nat.le_refl _, Nat.le_refl _⟩ rfl rfl (Nat.le_of_ble_eq_true rfl) dX9_alone_38 ?_
    refine z_if_ne (tgt := 50) S he dX9_alone_41 (by decide) (fun he => ?_) (fun he => ?_)
    · refine z_iinc (v := (v2 + 1)) (lv' := [(0, .ref (X.2.2 1)), (1, .int v1), (2, .int (v2 + 1))]) S [1, 2, 0] 2 dX9_alone_50 rfl (by rfl) (by decide) rfl ?_
      refine z_goto (tgt := 19) S dX9_alone_53 (by decide) ?_
      refine z_lv (ks := [0, 1, 2]) rfl ?_
      exact hc _ (Option.some.inj he).symm
    · refine z_iload_n S dX9_alone_44 rfl 1 rfl ?_
      refine z_iconst (v := 1) S dX9_alone_45 (by decide) ?_
      refine z_iload_n S dX9_alone_46 rfl 2 rfl ?_
      refine z_ishl S dX9_alone_47 ?_
      refine z_ior S dX9_alone_48 ?_
      obtain ⟨x6, ex6, he⟩ := bnd he
      rw [Option.some.inj ex6]
      refine z_istore_n (lv' := [(0, .ref (X.2.2 1)), (1, .int x6), (2, .int v2)]) S [1, 0, 2] dX9_alone_49 rfl (by decide) rfl ?_
      refine z_iinc (v := (v2 + 1)) (lv' := [(0, .ref (X.2.2 1)), (1, .int x6), (2, .int (v2 + 1))]) S [1, 2, 0] 2 dX9_alone_50 rfl (by rfl) (by decide) rfl ?_
      refine z_goto (tgt := 19) S dX9_alone_53 (by decide) ?_
      refine z_lv (ks := [0, 1, 2]) rfl ?_
      exact hc _ (Option.some.inj he).symm
set_option maxRecDepth 100000 in
set_option maxHeartbeats 4000000 in
theorem K_X9_alone {X : Cx} {l : Launch} {M : Mm} {r : Int32} {N : Mm}  (he : f_X9_alone M  = some (r, N)) : KI X 0 l yX9_alone (wz yX9_alone cX9_alone 3 (some .int)) rm_X9_alone [.ref (X.2.2 1)] M r N := by
  intro sz
  refine K_of (Qc := (fun sz => QI X 0 r N sz)) (own := RX9) (lv0 := [(0, .ref (X.2.2 1))]) (by decide +kernel) rfl (Nat.le_of_ble_eq_true rfl) rfl (fun p e s m args below meth c S => ?_) sz
  · unfold f_X9_alone at he
    refine z_aload_n S dX9_alone_0 rfl 0 rfl ?_
    refine z_getF (j := 82) S fo_RX9_50 81 rfl rfl ok_1 dX9_alone_1 ?_
    refine z_aload_n S dX9_alone_4 rfl 0 rfl ?_
    refine z_getGb (k2 := 4) S fo_RX9_20 rfl ok_1 (by decide) he dX9_alone_5 (fun q1 hq1 he => ?_)
    refine z_aload_n S dX9_alone_8 rfl 0 rfl ?_
    refine z_getGb (k2 := 2) S fo_RX9_30 rfl ok_1 (by decide) he dX9_alone_9 (fun q2 hq2 he => ?_)
    obtain ⟨M3, h9, he⟩ := bnd he
    refine z_cVV (As := [.ref (X.2.2 q1), .ref (X.2.2 q2)]) S cv_RX9_198 (K_X6_weigh (okk4 hq1) (okk2 hq2) h9) ok_82 (by decide) (q := (RX6, TX6, 4)) rfl rfl ⟨rfl, rfl⟩ ⟨Nat.le_of_ble_eq_true rfl, Nat.le_of_ble_eq_true rfl⟩ ⟨Nat.le_refl _, Nat.le_refl _⟩ rfl rfl (Nat.le_of_ble_eq_true rfl) dX9_alone_12 ?_
    refine z_iconst (v := 0) S dX9_alone_15 (by decide) ?_
    refine z_istore_n (lv' := [(0, .ref (X.2.2 1)), (1, .int 0)]) S [1, 0] dX9_alone_16 rfl (by decide) rfl ?_
    refine z_iconst (v := 0) S dX9_alone_17 (by decide) ?_
    refine z_istore_n (lv' := [(0, .ref (X.2.2 1)), (1, .int 0), (2, .int 0)]) S [1, 2, 0] dX9_alone_18 rfl (by decide) rfl ?_
    obtain ⟨e_7, hl, he⟩ := bnd he
    have hX : Z X 0 p l e rm_X9_alone s m args below meth c 0 0 (MQ below (QI X 0 r N s.heap.size) args s 0 0 (AA X 0 s.heap.size)) 3 M3 56 [(1, .int e_7)] [] := by
      refine z_iload_n S dX9_alone_56 rfl 0 rfl ?_
      exact z_iret S (Prod.mk.inj (Option.some.inj he)) dX9_alone_57
    exact loopZ (Zh := (fun a_7 => Z X 0 p l e rm_X9_alone s m args below meth c 0 0 (MQ below (QI X 0 r N s.heap.size) args s 0 0 (AA X 0 s.heap.size)) 3 M3 19 [(0, .ref (X.2.2 1)), (1, .int a_7.1), (2, .int a_7.2)] [])) (fun a_7 x hb hc hr => p_X9_alone_L19 S  hb hc (fun b hxe => by rw [hr b hxe]; exact hX)) FU _ hl
set_option maxRecDepth 100000 in
set_option maxHeartbeats 4000000 in
theorem p_X9_takeTold_L21 {X : Cx} {p : Program} {l : Launch} {e : Env} {s : State} {m : MethodId} {args : Array Value} {below : List Frame} {meth : Method} {c : Code} (S : SB X 0 p s m args meth c cX9_takeTold 3 (some .int) RX9) {M : Mm} {N : Mm} {r : Int32} {v1 : Int32} {v2 : Int32} {x : Int32 ⊕ ((Int32 × Mm) ⊕ Unit)}  (he : f_X9_takeTold_L21 M v1 v2 = some x) (hc : ∀ b, x = .inl b → Z X 0 p l e rm_X9_takeTold s m args below meth c 0 0 (MQ below (QI X 0 r N s.heap.size) args s 0 0 (AA X 0 s.heap.size)) 3 M 21 [(0, .ref (X.2.2 1)), (1, .int v1), (2, .int b)] []) (hx : ∀ b, x = .inr (.inr b) → Z X 0 p l e rm_X9_takeTold s m args below meth c 0 0 (MQ below (QI X 0 r N s.heap.size) args s 0 0 (AA X 0 s.heap.size)) 3 M 66 [(1, .int v1)] []) (hr : ∀ v, x = .inr (.inl v) → v = (r, N)) : Z X 0 p l e rm_X9_takeTold s m args below meth c 0 0 (MQ below (QI X 0 r N s.heap.size) args s 0 0 (AA X 0 s.heap.size)) 3 M 21 [(0, .ref (X.2.2 1)), (1, .int v1), (2, .int v2)] [] := by
  unfold f_X9_takeTold_L21 at he
  refine z_iload_n S dX9_takeTold_21 rfl 2 rfl ?_
  refine z_iload_n S dX9_takeTold_22 rfl 1 rfl ?_
  refine z_icmp_ge (tgt := 66) S he dX9_takeTold_23 (by decide) (fun he => ?_) (fun he => ?_)
  · refine z_lv (ks := [1]) rfl ?_
    exact hx _ (Option.some.inj he).symm
  · refine z_aload_n S dX9_takeTold_26 rfl 0 rfl ?_
    refine z_getF (j := 2) S fo_RX9_9 1 rfl rfl ok_1 dX9_takeTold_27 ?_
    refine z_iload_n S dX9_takeTold_30 rfl 2 rfl ?_
    obtain ⟨r3, h9, he⟩ := bnd he
    refine z_cSI (As := [.ref (X.2.2 2), .int v2]) S cs_RX9_158 (K_X9_at ok_2 h9) ⟨rfl, rfl⟩ ⟨Nat.le_of_ble_eq_true rfl, Nat.le_of_ble_eq_true rfl⟩ ⟨Nat.le_refl _, Nat.le_refl _⟩ rfl rfl (Nat.le_of_ble_eq_true rfl) dX9_takeTold_31 ?_
    refine z_aload_n S dX9_takeTold_34 rfl 0 rfl ?_
    refine z_getGb (k2 := 4) S fo_RX9_20 rfl ok_1 (by decide) he dX9_takeTold_35 (fun q4 hq4 he => ?_)
    refine z_getI S fo_RX9_289 rfl (okk4 hq4) dX9_takeTold_38 ?_
    refine z_icmp_ge (tgt := 58) S he dX9_takeTold_41 (by decide) (fun he => ?_) (fun he => ?_)
    · refine z_iconst (v := (-1)) S dX9_takeTold_58 (by decide) ?_
      exact z_iret S (Prod.mk.inj (hr _ (Option.some.inj he).symm)) dX9_takeTold_59
    · refine z_aload_n S dX9_takeTold_44 rfl 0 rfl ?_
      refine z_getF (j := 2) S fo_RX9_9 1 rfl rfl ok_1 dX9_takeTold_45 ?_
      refine z_iload_n S dX9_takeTold_48 rfl 2 rfl ?_
      refine z_iconst (v := 1) S dX9_takeTold_49 (by decide) ?_
      refine z_iadd S dX9_takeTold_50 ?_
      obtain ⟨r5, h9, he⟩ := bnd he
      refine z_cSI (As := [.ref (X.2.2 2), .int (v2 + 1)]) S cs_RX9_158 (K_X9_at ok_2 h9) ⟨rfl, rfl⟩ ⟨Nat.le_of_ble_eq_true rfl, Nat.le_of_ble_eq_true rfl⟩ ⟨Nat.le_refl _, Nat.le_refl _⟩ rfl rfl (Nat.le_of_ble_eq_true rfl) dX9_takeTold_51 ?_
      refine z_iconst (v := 1) S dX9_takeTold_54 (by decide) ?_
      refine z_icmp_le (tgt := 60) S he dX9_takeTold_55 (by decide) (fun he => ?_) (fun he => ?_)
      · refine z_iinc (v := (v2 + 2)) (lv' := [(0, .ref (X.2.2 1)), (1, .int v1), (2, .int (v2 + 2))]) S [1, 2, 0] 2 dX9_takeTold_60 rfl (by rfl) (by decide) rfl ?_
        refine z_goto (tgt := 21) S dX9_takeTold_63 (by decide) ?_
        refine z_lv (ks := [0, 1, 2]) rfl ?_
        exact hc _ (Option.some.inj he).symm
      · refine z_iconst (v := (-1)) S dX9_takeTold_58 (by decide) ?_
        exact z_iret S (Prod.mk.inj (hr _ (Option.some.inj he).symm)) dX9_takeTold_59
set_option maxRecDepth 100000 in
set_option maxHeartbeats 4000000 in
theorem K_X9_takeTold {X : Cx} {l : Launch} {M : Mm} {r : Int32} {N : Mm}  (he : f_X9_takeTold M  = some (r, N)) : KI X 0 l yX9_takeTold (wz yX9_takeTold cX9_takeTold 3 (some .int)) rm_X9_takeTold [.ref (X.2.2 1)] M r N := by
  intro sz
  refine K_of (Qc := (fun sz => QI X 0 r N sz)) (own := RX9) (lv0 := [(0, .ref (X.2.2 1))]) (by decide +kernel) rfl (Nat.le_of_ble_eq_true rfl) rfl (fun p e s m args below meth c S => ?_) sz
  · unfold f_X9_takeTold at he
    refine z_aload_n S dX9_takeTold_0 rfl 0 rfl ?_
    obtain ⟨⟨r1, M2⟩, h9, he⟩ := bnd he
    dsimp only at he
    refine z_cVI (As := []) S cv_RX9_97 (K_X9_useTapeUp  (Option.some.inj h9)) ok_1 (by decide) (q := (RX9, TX9, 17)) rfl rfl ⟨rfl, rfl⟩ ⟨Nat.le_of_ble_eq_true rfl, Nat.le_of_ble_eq_true rfl⟩ ⟨Nat.le_refl _, Nat.le_refl _⟩ rfl rfl (Nat.le_of_ble_eq_true rfl) dX9_takeTold_1 ?_
    refine z_istore_n (lv' := [(0, .ref (X.2.2 1)), (1, .int r1)]) S [1, 0] dX9_takeTold_4 rfl (by decide) rfl ?_
    refine z_iload_n S dX9_takeTold_5 rfl 1 rfl ?_
    refine z_bipush (v := 40) S dX9_takeTold_6 (by decide) ?_
    refine z_icmp_gt (tgt := 17) S he dX9_takeTold_8 (by decide) (fun he => ?_) (fun he => ?_)
    · refine z_iconst (v := (-1)) S dX9_takeTold_17 (by decide) ?_
      exact z_iret S (Prod.mk.inj (Option.some.inj he)) dX9_takeTold_18
    · refine z_iload_n S dX9_takeTold_11 rfl 1 rfl ?_
      refine z_iconst (v := 2) S dX9_takeTold_12 (by decide) ?_
      refine z_irem S (by decide) dX9_takeTold_13 ?_
      refine z_if_eq (tgt := 19) S he dX9_takeTold_14 (by decide) (fun he => ?_) (fun he => ?_)
      · refine z_iconst (v := 0) S dX9_takeTold_19 (by decide) ?_
        refine z_istore_n (lv' := [(0, .ref (X.2.2 1)), (1, .int r1), (2, .int 0)]) S [1, 2, 0] dX9_takeTold_20 rfl (by decide) rfl ?_
        obtain ⟨r9, hl, hr1, hr2⟩ := bndS he
        have hX : ∀ e_6, r9 = .inr e_6 → Z X 0 p l e rm_X9_takeTold s m args below meth c 0 0 (MQ below (QI X 0 r N s.heap.size) args s 0 0 (AA X 0 s.heap.size)) 3 M2 66 [(1, .int r1)] [] := by
          intro e_6 hre
          have he := hr2 e_6 hre
          refine z_iload_n S dX9_takeTold_66 rfl 0 rfl ?_
          exact z_iret S (Prod.mk.inj (Option.some.inj he)) dX9_takeTold_67
        exact loopZ (Zh := (fun a_6 => Z X 0 p l e rm_X9_takeTold s m args below meth c 0 0 (MQ below (QI X 0 r N s.heap.size) args s 0 0 (AA X 0 s.heap.size)) 3 M2 21 [(0, .ref (X.2.2 1)), (1, .int r1), (2, .int a_6)] [])) (fun a_6 x hb hc hr9 => p_X9_takeTold_L21 S  hb hc (fun b hxe => hX b (hr9 _ hxe).symm) (fun v hxv => Option.some.inj (hr1 v (hr9 _ hxv).symm))) FU _ hl
      · refine z_iconst (v := (-1)) S dX9_takeTold_17 (by decide) ?_
        exact z_iret S (Prod.mk.inj (Option.some.inj he)) dX9_takeTold_18
set_option maxRecDepth 100000 in
set_option maxHeartbeats 4000000 in
theorem p_X9_setsWithin_L4 {X : Cx} {p : Program} {l : Launch} {e : Env} {s : State} {m : MethodId} {args : Array Value} {below : List Frame} {meth : Method} {c : Code} (S : SB X 0 p s m args meth c cX9_setsWithin 4 (some .long) RX9) {M : Mm} {r : Int64} {v0 : Int32} {v1 : Int64} {v3 : Int32} {x : (Int64 × Int32) ⊕ Int64}  (he : f_X9_setsWithin_L4 M v0 v1 v3 = some x) (hc : ∀ b, x = .inl b → Z X 0 p l e rm_X9_setsWithin s m args below meth c 0 0 (MQ below (QL X 0 r M s.heap.size) args s 0 0 (AA X 0 s.heap.size)) 4 M 4 [(0, .int v0), (1, .long b.1), (3, .int b.2)] []) (hx : ∀ b, x = .inr b → Z X 0 p l e rm_X9_setsWithin s m args below meth c 0 0 (MQ below (QL X 0 r M s.heap.size) args s 0 0 (AA X 0 s.heap.size)) 4 M 30 [(1, .long b)] []) : Z X 0 p l e rm_X9_setsWithin s m args below meth c 0 0 (MQ below (QL X 0 r M s.heap.size) args s 0 0 (AA X 0 s.heap.size)) 4 M 4 [(0, .int v0), (1, .long v1), (3, .int v3)] [] := by
  unfold f_X9_setsWithin_L4 at he
  refine z_iload_n S dX9_setsWithin_4 rfl 2 rfl ?_
  refine z_bipush (v := 64) S dX9_setsWithin_5 (by decide) ?_
  refine z_icmp_ge (tgt := 30) S he dX9_setsWithin_7 (by decide) (fun he => ?_) (fun he => ?_)
  · refine z_lv (ks := [1]) rfl ?_
    exact hx _ (Option.some.inj he).symm
  · refine z_iload_n S dX9_setsWithin_10 rfl 2 rfl ?_
    refine z_iload_n S dX9_setsWithin_11 rfl 0 rfl ?_
    refine z_iconst (v := (-1)) S dX9_setsWithin_12 (by decide) ?_
    refine z_ixor S dX9_setsWithin_13 ?_
    refine z_iand S dX9_setsWithin_14 ?_
    refine z_if_ne (tgt := 24) S he dX9_setsWithin_15 (by decide) (fun he => ?_) (fun he => ?_)
    · refine z_iinc (v := (v3 + 1)) (lv' := [(0, .int v0), (1, .long v1), (3, .int (v3 + 1))]) S [1, 2, 0] 2 dX9_setsWithin_24 rfl (by rfl) (by decide) rfl ?_
      refine z_goto (tgt := 4) S dX9_setsWithin_27 (by decide) ?_
      refine z_lv (ks := [0, 1, 2]) rfl ?_
      exact hc _ (Option.some.inj he).symm
    · refine z_lload_n S dX9_setsWithin_18 rfl 1 rfl ?_
      refine z_lconst (v := 1) S dX9_setsWithin_19 (by decide) ?_
      refine z_iload_n S dX9_setsWithin_20 rfl 2 rfl ?_
      refine z_lshl S dX9_setsWithin_21 ?_
      refine z_lor S dX9_setsWithin_22 ?_
      refine z_lstore_n (lv' := [(0, .int v0), (1, .long (v1 ||| (lsh 1 v3))), (3, .int v3)]) S [1, 0, 2] dX9_setsWithin_23 rfl (by decide) rfl ?_
      refine z_iinc (v := (v3 + 1)) (lv' := [(0, .int v0), (1, .long (v1 ||| (lsh 1 v3))), (3, .int (v3 + 1))]) S [1, 2, 0] 2 dX9_setsWithin_24 rfl (by rfl) (by decide) rfl ?_
      refine z_goto (tgt := 4) S dX9_setsWithin_27 (by decide) ?_
      refine z_lv (ks := [0, 1, 2]) rfl ?_
      exact hc _ (Option.some.inj he).symm
set_option maxRecDepth 100000 in
set_option maxHeartbeats 4000000 in
theorem K_X9_setsWithin {X : Cx} {l : Launch} {M : Mm} {a0 : Int32} {r : Int64}  (he : f_X9_setsWithin M a0 = some r) : KL X 0 l yX9_setsWithin (wz yX9_setsWithin cX9_setsWithin 4 (some .long)) rm_X9_setsWithin [.int a0] M r M := by
  intro sz
  refine K_of (Qc := (fun sz => QL X 0 r M sz)) (own := RX9) (lv0 := [(0, .int a0)]) (by decide +kernel) rfl (Nat.le_of_ble_eq_true rfl) rfl (fun p e s m args below meth c S => ?_) sz
  · unfold f_X9_setsWithin at he
    refine z_lconst (v := 0) S dX9_setsWithin_0 (by decide) ?_
    refine z_lstore_n (lv' := [(0, .int a0), (1, .long 0)]) S [1, 0] dX9_setsWithin_1 rfl (by decide) rfl ?_
    refine z_iconst (v := 0) S dX9_setsWithin_2 (by decide) ?_
    refine z_istore_n (lv' := [(0, .int a0), (1, .long 0), (3, .int 0)]) S [1, 2, 0] dX9_setsWithin_3 rfl (by decide) rfl ?_
    obtain ⟨e_1, hl, he⟩ := bnd he
    have hX : Z X 0 p l e rm_X9_setsWithin s m args below meth c 0 0 (MQ below (QL X 0 r M s.heap.size) args s 0 0 (AA X 0 s.heap.size)) 4 M 30 [(1, .long e_1)] [] := by
      refine z_lload_n S dX9_setsWithin_30 rfl 0 rfl ?_
      exact z_lret S (⟨Option.some.inj he, rfl⟩) dX9_setsWithin_31
    exact loopZ (Zh := (fun a_1 => Z X 0 p l e rm_X9_setsWithin s m args below meth c 0 0 (MQ below (QL X 0 r M s.heap.size) args s 0 0 (AA X 0 s.heap.size)) 4 M 4 [(0, .int a0), (1, .long a_1.1), (3, .int a_1.2)] [])) (fun a_1 x hb hc hr => p_X9_setsWithin_L4 S  hb hc (fun b hxe => by rw [hr b hxe]; exact hX)) FU _ hl
set_option maxRecDepth 100000 in
set_option maxHeartbeats 4000000 in
theorem p_X9_fittingSets_L7 {X : Cx} {p : Program} {l : Launch} {e : Env} {s : State} {m : MethodId} {args : Array Value} {below : List Frame} {meth : Method} {c : Code} (S : SB X 0 p s m args meth c cX9_fittingSets 7 (some .long) RX9) {M : Mm} {r : Int64} {v1 : Int32} {v2 : Int64} {v4 : Int32} {x : (Int64 × Int32) ⊕ Int64}  (he : f_X9_fittingSets_L7 M v1 v2 v4 = some x) (hc : ∀ b, x = .inl b → Z X 0 p l e rm_X9_fittingSets s m args below meth c 0 0 (MQ below (QL X 0 r M s.heap.size) args s 0 0 (AA X 0 s.heap.size)) 7 M 7 [(0, .ref (X.2.2 1)), (1, .int v1), (2, .long b.1), (4, .int b.2)] []) (hx : ∀ b, x = .inr b → Z X 0 p l e rm_X9_fittingSets s m args below meth c 0 0 (MQ below (QL X 0 r M s.heap.size) args s 0 0 (AA X 0 s.heap.size)) 7 M 70 [(2, .long b)] []) : Z X 0 p l e rm_X9_fittingSets s m args below meth c 0 0 (MQ below (QL X 0 r M s.heap.size) args s 0 0 (AA X 0 s.heap.size)) 7 M 7 [(0, .ref (X.2.2 1)), (1, .int v1), (2, .long v2), (4, .int v4)] [] := by
  unfold f_X9_fittingSets_L7 at he
  refine z_iload S dX9_fittingSets_7 3 rfl ?_
  refine z_iload_n S dX9_fittingSets_9 rfl 1 rfl ?_
  refine z_icmp_ge (tgt := 70) S he dX9_fittingSets_10 (by decide) (fun he => ?_) (fun he => ?_)
  · refine z_lv (ks := [2]) rfl ?_
    exact hx _ (Option.some.inj he).symm
  · refine z_aload_n S dX9_fittingSets_13 rfl 0 rfl ?_
    refine z_getGb (k2 := 4) S fo_RX9_20 rfl ok_1 (by decide) he dX9_fittingSets_14 (fun q1 hq1 he => ?_)
    refine z_aload_n S dX9_fittingSets_17 rfl 0 rfl ?_
    refine z_getF (j := 2) S fo_RX9_9 1 rfl rfl ok_1 dX9_fittingSets_18 ?_
    refine z_iload S dX9_fittingSets_21 3 rfl ?_
    obtain ⟨r2, h9, he⟩ := bnd he
    refine z_cSI (As := [.ref (X.2.2 2), .int v4]) S cs_RX9_158 (K_X9_at ok_2 h9) ⟨rfl, rfl⟩ ⟨Nat.le_of_ble_eq_true rfl, Nat.le_of_ble_eq_true rfl⟩ ⟨Nat.le_refl _, Nat.le_refl _⟩ rfl rfl (Nat.le_of_ble_eq_true rfl) dX9_fittingSets_23 ?_
    refine z_iconst (v := 4) S dX9_fittingSets_26 (by decide) ?_
    obtain ⟨r3, h9, he⟩ := bnd he
    refine z_cVI (As := [.int r2, .int 4]) S cv_RX9_174 (K_X4_ofVisitor (okk4 hq1) h9) (okk4 hq1) (by decide) (q := (RX4, TX4, 10)) rfl rfl ⟨rfl, rfl⟩ ⟨Nat.le_of_ble_eq_true rfl, Nat.le_of_ble_eq_true rfl⟩ ⟨Nat.le_refl _, Nat.le_refl _⟩ rfl rfl (Nat.le_of_ble_eq_true rfl) dX9_fittingSets_27 ?_
    obtain ⟨r4, h9, he⟩ := bnd he
    refine z_cSL (As := [.int r3]) S cs_RX9_310 (K_X9_setsWithin  h9) ⟨rfl, rfl⟩ ⟨Nat.le_of_ble_eq_true rfl, Nat.le_of_ble_eq_true rfl⟩ ⟨Nat.le_refl _, Nat.le_refl _⟩ rfl rfl (Nat.le_of_ble_eq_true rfl) dX9_fittingSets_30 ?_
    refine z_lstore (lv' := [(0, .ref (X.2.2 1)), (1, .int v1), (2, .long v2), (4, .int v4), (5, .long r4)]) S [1, 2, 3, 4, 0] dX9_fittingSets_33 (by decide) rfl ?_
    refine z_lload_n S dX9_fittingSets_35 rfl 2 rfl ?_
    refine z_aload_n S dX9_fittingSets_36 rfl 0 rfl ?_
    refine z_getF (j := 2) S fo_RX9_9 1 rfl rfl ok_1 dX9_fittingSets_37 ?_
    refine z_iload S dX9_fittingSets_40 3 rfl ?_
    refine z_iconst (v := 1) S dX9_fittingSets_42 (by decide) ?_
    refine z_iadd S dX9_fittingSets_43 ?_
    obtain ⟨r5, h9, he⟩ := bnd he
    refine z_cSI (As := [.ref (X.2.2 2), .int (v4 + 1)]) S cs_RX9_158 (K_X9_at ok_2 h9) ⟨rfl, rfl⟩ ⟨Nat.le_of_ble_eq_true rfl, Nat.le_of_ble_eq_true rfl⟩ ⟨Nat.le_refl _, Nat.le_refl _⟩ rfl rfl (Nat.le_of_ble_eq_true rfl) dX9_fittingSets_44 ?_
    refine z_iconst (v := 1) S dX9_fittingSets_47 (by decide) ?_
    refine z_icmp_ne (tgt := 56) S he dX9_fittingSets_48 (by decide) (fun he => ?_) (fun he => ?_)
    · refine z_lload S dX9_fittingSets_56 4 rfl ?_
      refine z_ldc2 (v := (-1)) S kc_RX9_318 dX9_fittingSets_58 ?_
      refine z_lxor S dX9_fittingSets_61 ?_
      refine z_land S dX9_fittingSets_62 ?_
      refine z_lstore_n (lv' := [(0, .ref (X.2.2 1)), (1, .int v1), (2, .long (v2 &&& (r4 ^^^ (-1)))), (4, .int v4)]) S [1, 2, 0, 3] dX9_fittingSets_63 rfl (by decide) rfl ?_
      refine z_iinc (v := (v4 + 2)) (lv' := [(0, .ref (X.2.2 1)), (1, .int v1), (2, .long (v2 &&& (r4 ^^^ (-1)))), (4, .int (v4 + 2))]) S [1, 2, 3, 0] 3 dX9_fittingSets_64 rfl (by rfl) (by decide) rfl ?_
      refine z_goto (tgt := 7) S dX9_fittingSets_67 (by decide) ?_
      refine z_lv (ks := [0, 1, 2, 3]) rfl ?_
      exact hc _ (Option.some.inj he).symm
    · refine z_lload S dX9_fittingSets_51 4 rfl ?_
      refine z_goto (tgt := 62) S dX9_fittingSets_53 (by decide) ?_
      refine z_land S dX9_fittingSets_62 ?_
      refine z_lstore_n (lv' := [(0, .ref (X.2.2 1)), (1, .int v1), (2, .long (v2 &&& r4)), (4, .int v4)]) S [1, 2, 0, 3] dX9_fittingSets_63 rfl (by decide) rfl ?_
      refine z_iinc (v := (v4 + 2)) (lv' := [(0, .ref (X.2.2 1)), (1, .int v1), (2, .long (v2 &&& r4)), (4, .int (v4 + 2))]) S [1, 2, 3, 0] 3 dX9_fittingSets_64 rfl (by rfl) (by decide) rfl ?_
      refine z_goto (tgt := 7) S dX9_fittingSets_67 (by decide) ?_
      refine z_lv (ks := [0, 1, 2, 3]) rfl ?_
      exact hc _ (Option.some.inj he).symm
set_option maxRecDepth 100000 in
set_option maxHeartbeats 4000000 in
theorem K_X9_fittingSets {X : Cx} {l : Launch} {M : Mm} {a1 : Int32} {r : Int64}  (he : f_X9_fittingSets M a1 = some r) : KL X 0 l yX9_fittingSets (wz yX9_fittingSets cX9_fittingSets 7 (some .long)) rm_X9_fittingSets [.ref (X.2.2 1), .int a1] M r M := by
  intro sz
  refine K_of (Qc := (fun sz => QL X 0 r M sz)) (own := RX9) (lv0 := [(0, .ref (X.2.2 1)), (1, .int a1)]) (by decide +kernel) rfl (Nat.le_of_ble_eq_true rfl) rfl (fun p e s m args below meth c S => ?_) sz
  · unfold f_X9_fittingSets at he
    refine z_ldc2 (v := (-1)) S kc_RX9_318 dX9_fittingSets_0 ?_
    refine z_lstore_n (lv' := [(0, .ref (X.2.2 1)), (1, .int a1), (2, .long (-1))]) S [1, 2, 0] dX9_fittingSets_3 rfl (by decide) rfl ?_
    refine z_iconst (v := 0) S dX9_fittingSets_4 (by decide) ?_
    refine z_istore (lv' := [(0, .ref (X.2.2 1)), (1, .int a1), (2, .long (-1)), (4, .int 0)]) S [1, 2, 3, 0] dX9_fittingSets_5 (by decide) rfl ?_
    obtain ⟨e_6, hl, he⟩ := bnd he
    have hX : Z X 0 p l e rm_X9_fittingSets s m args below meth c 0 0 (MQ below (QL X 0 r M s.heap.size) args s 0 0 (AA X 0 s.heap.size)) 7 M 70 [(2, .long e_6)] [] := by
      refine z_lload_n S dX9_fittingSets_70 rfl 0 rfl ?_
      exact z_lret S (⟨Option.some.inj he, rfl⟩) dX9_fittingSets_71
    exact loopZ (Zh := (fun a_6 => Z X 0 p l e rm_X9_fittingSets s m args below meth c 0 0 (MQ below (QL X 0 r M s.heap.size) args s 0 0 (AA X 0 s.heap.size)) 7 M 7 [(0, .ref (X.2.2 1)), (1, .int a1), (2, .long a_6.1), (4, .int a_6.2)] [])) (fun a_6 x hb hc hr => p_X9_fittingSets_L7 S  hb hc (fun b hxe => by rw [hr b hxe]; exact hX)) FU _ hl
set_option maxRecDepth 100000 in
set_option maxHeartbeats 4000000 in
theorem p_X9_smallestOf_J4_25 {X : Cx} {p : Program} {l : Launch} {e : Env} {s : State} {m : MethodId} {args : Array Value} {below : List Frame} {meth : Method} {c : Code} (S : SB X 0 p s m args meth c cX9_smallestOf 5 (some .int) RX9) {M : Mm} {r : Int32} {v0 : Int64} {v2 : Int32} {v3 : Int32} {t0 : Int32} {x : (Int32 × Int32) ⊕ Int32}  (he : f_X9_smallestOf_J4_25 M v0 v2 v3 t0 = some x) (hc : ∀ b, x = .inl b → Z X 0 p l e rm_X9_smallestOf s m args below meth c 0 0 (MQ below (QI X 0 r M s.heap.size) args s 0 0 (AA X 0 s.heap.size)) 5 M 4 [(0, .long v0), (2, .int b.1), (3, .int b.2)] []) (hx : ∀ b, x = .inr b → Z X 0 p l e rm_X9_smallestOf s m args below meth c 0 0 (MQ below (QI X 0 r M s.heap.size) args s 0 0 (AA X 0 s.heap.size)) 5 M 56 [(2, .int b)] []) : Z X 0 p l e rm_X9_smallestOf s m args below meth c 0 0 (MQ below (QI X 0 r M s.heap.size) args s 0 0 (AA X 0 s.heap.size)) 5 M 25 [(0, .long v0), (2, .int v2), (3, .int v3)] [.int t0] := by
  unfold f_X9_smallestOf_J4_25 at he
  refine z_istore (lv' := [(0, .long v0), (2, .int v2), (3, .int v3), (4, .int t0)]) S [1, 2, 3, 0] dX9_smallestOf_25 (by decide) rfl ?_
  refine z_iload S dX9_smallestOf_27 3 rfl ?_
  refine z_if_eq (tgt := 50) S he dX9_smallestOf_29 (by decide) (fun he => ?_) (fun he => ?_)
  · refine z_iinc (v := (v3 + 1)) (lv' := [(0, .long v0), (2, .int v2), (3, .int (v3 + 1)), (4, .int t0)]) S [1, 2, 0, 3] 2 dX9_smallestOf_50 rfl (by rfl) (by decide) rfl ?_
    refine z_goto (tgt := 4) S dX9_smallestOf_53 (by decide) ?_
    refine z_lv (ks := [0, 1, 2]) rfl ?_
    exact hc _ (Option.some.inj he).symm
  · refine z_iload_n S dX9_smallestOf_32 rfl 1 rfl ?_
    refine z_iconst (v := (-1)) S dX9_smallestOf_33 (by decide) ?_
    refine z_icmp_eq (tgt := 48) S he dX9_smallestOf_34 (by decide) (fun he => ?_) (fun he => ?_)
    · refine z_iload_n S dX9_smallestOf_48 rfl 2 rfl ?_
      refine z_istore_n (lv' := [(0, .long v0), (2, .int v3), (3, .int v3)]) S [1, 0, 2] dX9_smallestOf_49 rfl (by decide) rfl ?_
      refine z_iinc (v := (v3 + 1)) (lv' := [(0, .long v0), (2, .int v3), (3, .int (v3 + 1))]) S [1, 2, 0] 2 dX9_smallestOf_50 rfl (by rfl) (by decide) rfl ?_
      refine z_goto (tgt := 4) S dX9_smallestOf_53 (by decide) ?_
      refine z_lv (ks := [0, 1, 2]) rfl ?_
      exact hc _ (Option.some.inj he).symm
    · refine z_iload_n S dX9_smallestOf_37 rfl 2 rfl ?_
      obtain ⟨r1, h9, he⟩ := bnd he
      refine z_cSI (As := [.int v3]) S cs_RX9_320 (K_J6_bitCount_0f7a4  h9) ⟨rfl, rfl⟩ ⟨Nat.le_of_ble_eq_true rfl, Nat.le_of_ble_eq_true rfl⟩ ⟨Nat.le_refl _, Nat.le_refl _⟩ rfl rfl (Nat.le_of_ble_eq_true rfl) dX9_smallestOf_38 ?_
      refine z_iload_n S dX9_smallestOf_41 rfl 1 rfl ?_
      obtain ⟨r2, h9, he⟩ := bnd he
      refine z_cSI (As := [.int v2]) S cs_RX9_320 (K_J6_bitCount_0f7a4  h9) ⟨rfl, rfl⟩ ⟨Nat.le_of_ble_eq_true rfl, Nat.le_of_ble_eq_true rfl⟩ ⟨Nat.le_refl _, Nat.le_refl _⟩ rfl rfl (Nat.le_of_ble_eq_true rfl) dX9_smallestOf_42 ?_
      refine z_icmp_ge (tgt := 50) S he dX9_smallestOf_45 (by decide) (fun he => ?_) (fun he => ?_)
      · refine z_iinc (v := (v3 + 1)) (lv' := [(0, .long v0), (2, .int v2), (3, .int (v3 + 1)), (4, .int t0)]) S [1, 2, 0, 3] 2 dX9_smallestOf_50 rfl (by rfl) (by decide) rfl ?_
        refine z_goto (tgt := 4) S dX9_smallestOf_53 (by decide) ?_
        refine z_lv (ks := [0, 1, 2]) rfl ?_
        exact hc _ (Option.some.inj he).symm
      · refine z_iload_n S dX9_smallestOf_48 rfl 2 rfl ?_
        refine z_istore_n (lv' := [(0, .long v0), (2, .int v3), (3, .int v3)]) S [1, 0, 2] dX9_smallestOf_49 rfl (by decide) rfl ?_
        refine z_iinc (v := (v3 + 1)) (lv' := [(0, .long v0), (2, .int v3), (3, .int (v3 + 1))]) S [1, 2, 0] 2 dX9_smallestOf_50 rfl (by rfl) (by decide) rfl ?_
        refine z_goto (tgt := 4) S dX9_smallestOf_53 (by decide) ?_
        refine z_lv (ks := [0, 1, 2]) rfl ?_
        exact hc _ (Option.some.inj he).symm
set_option maxRecDepth 100000 in
set_option maxHeartbeats 4000000 in
theorem p_X9_smallestOf_L4 {X : Cx} {p : Program} {l : Launch} {e : Env} {s : State} {m : MethodId} {args : Array Value} {below : List Frame} {meth : Method} {c : Code} (S : SB X 0 p s m args meth c cX9_smallestOf 5 (some .int) RX9) {M : Mm} {r : Int32} {v0 : Int64} {v2 : Int32} {v3 : Int32} {x : (Int32 × Int32) ⊕ Int32}  (he : f_X9_smallestOf_L4 M v0 v2 v3 = some x) (hc : ∀ b, x = .inl b → Z X 0 p l e rm_X9_smallestOf s m args below meth c 0 0 (MQ below (QI X 0 r M s.heap.size) args s 0 0 (AA X 0 s.heap.size)) 5 M 4 [(0, .long v0), (2, .int b.1), (3, .int b.2)] []) (hx : ∀ b, x = .inr b → Z X 0 p l e rm_X9_smallestOf s m args below meth c 0 0 (MQ below (QI X 0 r M s.heap.size) args s 0 0 (AA X 0 s.heap.size)) 5 M 56 [(2, .int b)] []) : Z X 0 p l e rm_X9_smallestOf s m args below meth c 0 0 (MQ below (QI X 0 r M s.heap.size) args s 0 0 (AA X 0 s.heap.size)) 5 M 4 [(0, .long v0), (2, .int v2), (3, .int v3)] [] := by
  unfold f_X9_smallestOf_L4 at he
  refine z_iload_n S dX9_smallestOf_4 rfl 2 rfl ?_
  refine z_bipush (v := 64) S dX9_smallestOf_5 (by decide) ?_
  refine z_icmp_ge (tgt := 56) S he dX9_smallestOf_7 (by decide) (fun he => ?_) (fun he => ?_)
  · refine z_lv (ks := [1]) rfl ?_
    exact hx _ (Option.some.inj he).symm
  · refine z_lload_n S dX9_smallestOf_10 rfl 0 rfl ?_
    refine z_iload_n S dX9_smallestOf_11 rfl 2 rfl ?_
    refine z_lushr S dX9_smallestOf_12 ?_
    refine z_lconst (v := 1) S dX9_smallestOf_13 (by decide) ?_
    refine z_land S dX9_smallestOf_14 ?_
    refine z_lconst (v := 1) S dX9_smallestOf_15 (by decide) ?_
    refine z_lcmp S dX9_smallestOf_16 ?_
    refine z_if_ne (tgt := 24) S he dX9_smallestOf_17 (by decide) (fun he => ?_) (fun he => ?_)
    · refine z_iconst (v := 0) S dX9_smallestOf_24 (by decide) ?_
      exact p_X9_smallestOf_J4_25 S  he hc hx
    · refine z_iconst (v := 1) S dX9_smallestOf_20 (by decide) ?_
      refine z_goto (tgt := 25) S dX9_smallestOf_21 (by decide) ?_
      exact p_X9_smallestOf_J4_25 S  he hc hx
set_option maxRecDepth 100000 in
set_option maxHeartbeats 4000000 in
theorem K_X9_smallestOf {X : Cx} {l : Launch} {M : Mm} {a0 : Int64} {r : Int32}  (he : f_X9_smallestOf M a0 = some r) : KI X 0 l yX9_smallestOf (wz yX9_smallestOf cX9_smallestOf 5 (some .int)) rm_X9_smallestOf [.long a0] M r M := by
  intro sz
  refine K_of (Qc := (fun sz => QI X 0 r M sz)) (own := RX9) (lv0 := [(0, .long a0)]) (by decide +kernel) rfl (Nat.le_of_ble_eq_true rfl) rfl (fun p e s m args below meth c S => ?_) sz
  · unfold f_X9_smallestOf at he
    refine z_iconst (v := (-1)) S dX9_smallestOf_0 (by decide) ?_
    refine z_istore_n (lv' := [(0, .long a0), (2, .int (-1))]) S [1, 0] dX9_smallestOf_1 rfl (by decide) rfl ?_
    refine z_iconst (v := 0) S dX9_smallestOf_2 (by decide) ?_
    refine z_istore_n (lv' := [(0, .long a0), (2, .int (-1)), (3, .int 0)]) S [1, 2, 0] dX9_smallestOf_3 rfl (by decide) rfl ?_
    obtain ⟨e_3, hl, he⟩ := bnd he
    have hX : Z X 0 p l e rm_X9_smallestOf s m args below meth c 0 0 (MQ below (QI X 0 r M s.heap.size) args s 0 0 (AA X 0 s.heap.size)) 5 M 56 [(2, .int e_3)] [] := by
      refine z_iload_n S dX9_smallestOf_56 rfl 0 rfl ?_
      exact z_iret S (⟨Option.some.inj he, rfl⟩) dX9_smallestOf_57
    exact loopZ (Zh := (fun a_3 => Z X 0 p l e rm_X9_smallestOf s m args below meth c 0 0 (MQ below (QI X 0 r M s.heap.size) args s 0 0 (AA X 0 s.heap.size)) 5 M 4 [(0, .long a0), (2, .int a_3.1), (3, .int a_3.2)] [])) (fun a_3 x hb hc hr => p_X9_smallestOf_L4 S  hb hc (fun b hxe => by rw [hr b hxe]; exact hX)) FU _ hl
set_option maxRecDepth 100000 in
set_option maxHeartbeats 4000000 in
theorem p_X10_wanted_J30_61 {X : Cx} {p : Program} {l : Launch} {e : Env} {s : State} {m : MethodId} {args : Array Value} {below : List Frame} {meth : Method} {c : Code} (S : SB X 1 p s m args meth c cX10_wanted 6 (some .int) RX10) {M : Mm} {N : Mm} {r : Int32} {v1 : Int32} {v3 : Int32} {t0 : Int32} {t1 : Int32} {x : (Int32 × Int32) ⊕ Int32}  (he : f_X10_wanted_J30_61 M v1 v3 t0 t1 = some x) (hc : ∀ b, x = .inl b → Z X 1 p l e rm_X10_wanted s m args below meth c 0 0 (MQ below (QI X 1 r N s.heap.size) args s 0 0 (AA X 1 s.heap.size)) 6 M 30 [(0, .ref (X.2.2 200)), (1, .int v1), (2, .int b.1), (3, .int b.2)] []) (hx : ∀ b, x = .inr b → Z X 1 p l e rm_X10_wanted s m args below meth c 0 0 (MQ below (QI X 1 r N s.heap.size) args s 0 0 (AA X 1 s.heap.size)) 6 M 76 [(0, .ref (X.2.2 200)), (1, .int v1), (2, .int b)] []) : Z X 1 p l e rm_X10_wanted s m args below meth c 0 0 (MQ below (QI X 1 r N s.heap.size) args s 0 0 (AA X 1 s.heap.size)) 6 M 61 [(0, .ref (X.2.2 200)), (1, .int v1), (3, .int v3)] [.int t0, .int t1] := by
  unfold f_X10_wanted_J30_61 at he
  refine z_icmp_ge (tgt := 68) S he dX10_wanted_61 (by decide) (fun he => ?_) (fun he => ?_)
  · refine z_iconst (v := 0) S dX10_wanted_68 (by decide) ?_
    refine z_istore_n (lv' := [(0, .ref (X.2.2 200)), (1, .int v1), (2, .int 0), (3, .int v3)]) S [1, 2, 0, 3] dX10_wanted_69 rfl (by decide) rfl ?_
    refine z_iinc (v := (v3 + 1)) (lv' := [(0, .ref (X.2.2 200)), (1, .int v1), (2, .int 0), (3, .int (v3 + 1))]) S [1, 2, 3, 0] 3 dX10_wanted_70 rfl (by rfl) (by decide) rfl ?_
    refine z_goto (tgt := 30) S dX10_wanted_73 (by decide) ?_
    refine z_lv (ks := [0, 1, 2, 3]) rfl ?_
    exact hc _ (Option.some.inj he).symm
  · refine z_iconst (v := 1) S dX10_wanted_64 (by decide) ?_
    refine z_goto (tgt := 69) S dX10_wanted_65 (by decide) ?_
    refine z_istore_n (lv' := [(0, .ref (X.2.2 200)), (1, .int v1), (2, .int 1), (3, .int v3)]) S [1, 2, 0, 3] dX10_wanted_69 rfl (by decide) rfl ?_
    refine z_iinc (v := (v3 + 1)) (lv' := [(0, .ref (X.2.2 200)), (1, .int v1), (2, .int 1), (3, .int (v3 + 1))]) S [1, 2, 3, 0] 3 dX10_wanted_70 rfl (by rfl) (by decide) rfl ?_
    refine z_goto (tgt := 30) S dX10_wanted_73 (by decide) ?_
    refine z_lv (ks := [0, 1, 2, 3]) rfl ?_
    exact hc _ (Option.some.inj he).symm
set_option maxRecDepth 100000 in
set_option maxHeartbeats 4000000 in
theorem p_X10_wanted_L30 {X : Cx} {p : Program} {l : Launch} {e : Env} {s : State} {m : MethodId} {args : Array Value} {below : List Frame} {meth : Method} {c : Code} (S : SB X 1 p s m args meth c cX10_wanted 6 (some .int) RX10) {M : Mm} {N : Mm} {r : Int32} {v1 : Int32} {v2 : Int32} {v3 : Int32} {x : (Int32 × Int32) ⊕ Int32}  (he : f_X10_wanted_L30 M v1 v2 v3 = some x) (hc : ∀ b, x = .inl b → Z X 1 p l e rm_X10_wanted s m args below meth c 0 0 (MQ below (QI X 1 r N s.heap.size) args s 0 0 (AA X 1 s.heap.size)) 6 M 30 [(0, .ref (X.2.2 200)), (1, .int v1), (2, .int b.1), (3, .int b.2)] []) (hx : ∀ b, x = .inr b → Z X 1 p l e rm_X10_wanted s m args below meth c 0 0 (MQ below (QI X 1 r N s.heap.size) args s 0 0 (AA X 1 s.heap.size)) 6 M 76 [(0, .ref (X.2.2 200)), (1, .int v1), (2, .int b)] []) : Z X 1 p l e rm_X10_wanted s m args below meth c 0 0 (MQ below (QI X 1 r N s.heap.size) args s 0 0 (AA X 1 s.heap.size)) 6 M 30 [(0, .ref (X.2.2 200)), (1, .int v1), (2, .int v2), (3, .int v3)] [] := by
  unfold f_X10_wanted_L30 at he
  refine z_iload_n S dX10_wanted_30 rfl 3 rfl ?_
  refine z_iload_n S dX10_wanted_31 rfl 1 rfl ?_
  refine z_icmp_ge (tgt := 76) S he dX10_wanted_32 (by decide) (fun he => ?_) (fun he => ?_)
  · refine z_lv (ks := [0, 1, 2]) rfl ?_
    exact hx _ (Option.some.inj he).symm
  · refine z_iload_n S dX10_wanted_35 rfl 2 rfl ?_
    refine z_if_eq (tgt := 76) S he dX10_wanted_36 (by decide) (fun he => ?_) (fun he => ?_)
    · refine z_lv (ks := [0, 1, 2]) rfl ?_
      exact hx _ (Option.some.inj he).symm
    · refine z_aload_n S dX10_wanted_39 rfl 0 rfl ?_
      refine z_getF (j := 205) S fo_RX10_22 5 rfl rfl ok_200 dX10_wanted_40 ?_
      refine z_iload_n S dX10_wanted_43 rfl 3 rfl ?_
      refine z_iald S ok_205 rfl he dX10_wanted_44 (fun he => ?_)
      refine z_iload_n S dX10_wanted_45 rfl 3 rfl ?_
      refine z_iconst (v := 2) S dX10_wanted_46 (by decide) ?_
      refine z_irem S (by decide) dX10_wanted_47 ?_
      refine z_if_ne (tgt := 60) S he dX10_wanted_48 (by decide) (fun he => ?_) (fun he => ?_)
      · refine z_iconst (v := 2) S dX10_wanted_60 (by decide) ?_
        refine z_lv (ks := [0, 1, 3]) rfl ?_
        exact p_X10_wanted_J30_61 S  he hc hx
      · refine z_aload_n S dX10_wanted_51 rfl 0 rfl ?_
        refine z_getF (j := 201) S fo_RX10_7 1 rfl rfl ok_200 dX10_wanted_52 ?_
        refine z_iconst (v := 4) S dX10_wanted_55 (by decide) ?_
        refine z_iald S ok_201 rfl he dX10_wanted_56 (fun he => ?_)
        refine z_goto (tgt := 61) S dX10_wanted_57 (by decide) ?_
        refine z_lv (ks := [0, 1, 3]) rfl ?_
        exact p_X10_wanted_J30_61 S  he hc hx
set_option maxRecDepth 100000 in
set_option maxHeartbeats 4000000 in
theorem p_X10_wanted_J105_178 {X : Cx} {p : Program} {l : Launch} {e : Env} {s : State} {m : MethodId} {args : Array Value} {below : List Frame} {meth : Method} {c : Code} (S : SB X 1 p s m args meth c cX10_wanted 6 (some .int) RX10) {M : Mm} {N : Mm} {r : Int32} {v1 : Int32} {v3 : Int32} {v4 : Int32} {v5 : Int32} {t0 : Int32} {t1 : Int32} {x : (Mm × Int32) ⊕ Mm}  (he : f_X10_wanted_J105_178 M v1 v3 v4 v5 t0 t1 = some x) (hc : ∀ b, x = .inl b → Z X 1 p l e rm_X10_wanted s m args below meth c 0 0 (MQ below (QI X 1 r N s.heap.size) args s 0 0 (AA X 1 s.heap.size)) 6 b.1 105 [(0, .ref (X.2.2 200)), (1, .int v1), (3, .int v3), (4, .int v4), (5, .int b.2)] []) (hx : ∀ b, x = .inr b → Z X 1 p l e rm_X10_wanted s m args below meth c 0 0 (MQ below (QI X 1 r N s.heap.size) args s 0 0 (AA X 1 s.heap.size)) 6 b 185 [(0, .ref (X.2.2 200)), (1, .int v1), (3, .int v3), (4, .int v4)] []) : Z X 1 p l e rm_X10_wanted s m args below meth c 0 0 (MQ below (QI X 1 r N s.heap.size) args s 0 0 (AA X 1 s.heap.size)) 6 M 178 [(0, .ref (X.2.2 200)), (1, .int v1), (3, .int v3), (4, .int v4), (5, .int v5)] [.int t0, .int t1, .ref (X.2.2 216)] := by
  unfold f_X10_wanted_J105_178 at he
  refine z_zastb S ok_216 rfl he dX10_wanted_178 (fun M5 he => ?_)
  refine z_iinc (v := (v5 + 2)) (lv' := [(0, .ref (X.2.2 200)), (1, .int v1), (3, .int v3), (4, .int v4), (5, .int (v5 + 2))]) S [1, 2, 3, 4, 0] 4 dX10_wanted_179 rfl (by rfl) (by decide) rfl ?_
  refine z_goto (tgt := 105) S dX10_wanted_182 (by decide) ?_
  refine z_lv (ks := [0, 1, 2, 3, 4]) rfl ?_
  exact hc _ (Option.some.inj he).symm
set_option maxRecDepth 100000 in
set_option maxHeartbeats 4000000 in
theorem p_X10_wanted_J105_170 {X : Cx} {p : Program} {l : Launch} {e : Env} {s : State} {m : MethodId} {args : Array Value} {below : List Frame} {meth : Method} {c : Code} (S : SB X 1 p s m args meth c cX10_wanted 6 (some .int) RX10) {M : Mm} {N : Mm} {r : Int32} {v1 : Int32} {v3 : Int32} {v4 : Int32} {v5 : Int32} {t0 : Int32} {t1 : Int32} {t2 : Int32} {x : (Mm × Int32) ⊕ Mm}  (he : f_X10_wanted_J105_170 M v1 v3 v4 v5 t0 t1 t2 = some x) (hc : ∀ b, x = .inl b → Z X 1 p l e rm_X10_wanted s m args below meth c 0 0 (MQ below (QI X 1 r N s.heap.size) args s 0 0 (AA X 1 s.heap.size)) 6 b.1 105 [(0, .ref (X.2.2 200)), (1, .int v1), (3, .int v3), (4, .int v4), (5, .int b.2)] []) (hx : ∀ b, x = .inr b → Z X 1 p l e rm_X10_wanted s m args below meth c 0 0 (MQ below (QI X 1 r N s.heap.size) args s 0 0 (AA X 1 s.heap.size)) 6 b 185 [(0, .ref (X.2.2 200)), (1, .int v1), (3, .int v3), (4, .int v4)] []) : Z X 1 p l e rm_X10_wanted s m args below meth c 0 0 (MQ below (QI X 1 r N s.heap.size) args s 0 0 (AA X 1 s.heap.size)) 6 M 170 [(0, .ref (X.2.2 200)), (1, .int v1), (3, .int v3), (4, .int v4), (5, .int v5)] [.int t0, .int t1, .int t2, .ref (X.2.2 216)] := by
  unfold f_X10_wanted_J105_170 at he
  refine z_icmp_ne (tgt := 177) S he dX10_wanted_170 (by decide) (fun he => ?_) (fun he => ?_)
  · refine z_iconst (v := 0) S dX10_wanted_177 (by decide) ?_
    exact p_X10_wanted_J105_178 S  he hc hx
  · refine z_iconst (v := 1) S dX10_wanted_173 (by decide) ?_
    refine z_goto (tgt := 178) S dX10_wanted_174 (by decide) ?_
    exact p_X10_wanted_J105_178 S  he hc hx
set_option maxRecDepth 100000 in
set_option maxHeartbeats 4000000 in
theorem p_X10_wanted_J105_152 {X : Cx} {p : Program} {l : Launch} {e : Env} {s : State} {m : MethodId} {args : Array Value} {below : List Frame} {meth : Method} {c : Code} (S : SB X 1 p s m args meth c cX10_wanted 6 (some .int) RX10) {M : Mm} {N : Mm} {r : Int32} {v1 : Int32} {v3 : Int32} {v4 : Int32} {v5 : Int32} {t0 : Int32} {t1 : Int32} {x : (Mm × Int32) ⊕ Mm}  (he : f_X10_wanted_J105_152 M v1 v3 v4 v5 t0 t1 = some x) (hc : ∀ b, x = .inl b → Z X 1 p l e rm_X10_wanted s m args below meth c 0 0 (MQ below (QI X 1 r N s.heap.size) args s 0 0 (AA X 1 s.heap.size)) 6 b.1 105 [(0, .ref (X.2.2 200)), (1, .int v1), (3, .int v3), (4, .int v4), (5, .int b.2)] []) (hx : ∀ b, x = .inr b → Z X 1 p l e rm_X10_wanted s m args below meth c 0 0 (MQ below (QI X 1 r N s.heap.size) args s 0 0 (AA X 1 s.heap.size)) 6 b 185 [(0, .ref (X.2.2 200)), (1, .int v1), (3, .int v3), (4, .int v4)] []) : Z X 1 p l e rm_X10_wanted s m args below meth c 0 0 (MQ below (QI X 1 r N s.heap.size) args s 0 0 (AA X 1 s.heap.size)) 6 M 152 [(0, .ref (X.2.2 200)), (1, .int v1), (3, .int v3), (4, .int v4), (5, .int v5)] [.int t0, .int t1, .ref (X.2.2 216)] := by
  unfold f_X10_wanted_J105_152 at he
  refine z_aload_n S dX10_wanted_152 rfl 0 rfl ?_
  refine z_getF (j := 205) S fo_RX10_22 5 rfl rfl ok_200 dX10_wanted_153 ?_
  refine z_iload S dX10_wanted_156 4 rfl ?_
  refine z_iconst (v := 1) S dX10_wanted_158 (by decide) ?_
  refine z_iadd S dX10_wanted_159 ?_
  refine z_iald S ok_205 rfl he dX10_wanted_160 (fun he => ?_)
  refine z_iconst (v := 1) S dX10_wanted_161 (by decide) ?_
  refine z_icmp_ne (tgt := 169) S he dX10_wanted_162 (by decide) (fun he => ?_) (fun he => ?_)
  · refine z_iconst (v := 0) S dX10_wanted_169 (by decide) ?_
    exact p_X10_wanted_J105_170 S  he hc hx
  · refine z_iconst (v := 1) S dX10_wanted_165 (by decide) ?_
    refine z_goto (tgt := 170) S dX10_wanted_166 (by decide) ?_
    exact p_X10_wanted_J105_170 S  he hc hx
set_option maxRecDepth 100000 in
set_option maxHeartbeats 4000000 in
theorem p_X10_wanted_L105 {X : Cx} {p : Program} {l : Launch} {e : Env} {s : State} {m : MethodId} {args : Array Value} {below : List Frame} {meth : Method} {c : Code} (S : SB X 1 p s m args meth c cX10_wanted 6 (some .int) RX10) {M : Mm} {N : Mm} {r : Int32} {v1 : Int32} {v3 : Int32} {v4 : Int32} {v5 : Int32} {x : (Mm × Int32) ⊕ Mm}  (he : f_X10_wanted_L105 M v1 v3 v4 v5 = some x) (hc : ∀ b, x = .inl b → Z X 1 p l e rm_X10_wanted s m args below meth c 0 0 (MQ below (QI X 1 r N s.heap.size) args s 0 0 (AA X 1 s.heap.size)) 6 b.1 105 [(0, .ref (X.2.2 200)), (1, .int v1), (3, .int v3), (4, .int v4), (5, .int b.2)] []) (hx : ∀ b, x = .inr b → Z X 1 p l e rm_X10_wanted s m args below meth c 0 0 (MQ below (QI X 1 r N s.heap.size) args s 0 0 (AA X 1 s.heap.size)) 6 b 185 [(0, .ref (X.2.2 200)), (1, .int v1), (3, .int v3), (4, .int v4)] []) : Z X 1 p l e rm_X10_wanted s m args below meth c 0 0 (MQ below (QI X 1 r N s.heap.size) args s 0 0 (AA X 1 s.heap.size)) 6 M 105 [(0, .ref (X.2.2 200)), (1, .int v1), (3, .int v3), (4, .int v4), (5, .int v5)] [] := by
  unfold f_X10_wanted_L105 at he
  refine z_iload S dX10_wanted_105 4 rfl ?_
  refine z_iload_n S dX10_wanted_107 rfl 1 rfl ?_
  refine z_icmp_ge (tgt := 185) S he dX10_wanted_108 (by decide) (fun he => ?_) (fun he => ?_)
  · refine z_lv (ks := [0, 1, 2, 3]) rfl ?_
    exact hx _ (Option.some.inj he).symm
  · refine z_aload_n S dX10_wanted_111 rfl 0 rfl ?_
    refine z_getF (j := 216) S fo_RX10_59 16 rfl rfl ok_200 dX10_wanted_112 ?_
    refine z_iload S dX10_wanted_115 3 rfl ?_
    refine z_zald S ok_216 rfl he dX10_wanted_117 (fun he => ?_)
    refine z_if_eq (tgt := 185) S he dX10_wanted_118 (by decide) (fun he => ?_) (fun he => ?_)
    · refine z_lv (ks := [0, 1, 2, 3]) rfl ?_
      exact hx _ (Option.some.inj he).symm
    · refine z_aload_n S dX10_wanted_121 rfl 0 rfl ?_
      refine z_getF (j := 216) S fo_RX10_59 16 rfl rfl ok_200 dX10_wanted_122 ?_
      refine z_iload S dX10_wanted_125 3 rfl ?_
      refine z_iload S dX10_wanted_127 3 rfl ?_
      refine z_aload_n S dX10_wanted_129 rfl 0 rfl ?_
      refine z_aload_n S dX10_wanted_130 rfl 0 rfl ?_
      refine z_getF (j := 205) S fo_RX10_22 5 rfl rfl ok_200 dX10_wanted_131 ?_
      refine z_iload S dX10_wanted_134 4 rfl ?_
      refine z_iald S ok_205 rfl he dX10_wanted_136 (fun he => ?_)
      refine z_iconst (v := 4) S dX10_wanted_137 (by decide) ?_
      obtain ⟨r4, h9, he⟩ := bnd he
      refine z_cVI (As := [.int (gA M 205 v5), .int 4]) S cv_RX10_246 (K_X10_ofOne  h9) ok_200 (by decide) (q := (RX10, TX10, 28)) rfl rfl ⟨rfl, rfl⟩ ⟨Nat.le_of_ble_eq_true rfl, Nat.le_of_ble_eq_true rfl⟩ ⟨Nat.le_refl _, Nat.le_refl _⟩ rfl rfl (Nat.le_of_ble_eq_true rfl) dX10_wanted_138 ?_
      refine z_iconst (v := (-1)) S dX10_wanted_141 (by decide) ?_
      refine z_ixor S dX10_wanted_142 ?_
      refine z_iand S dX10_wanted_143 ?_
      refine z_if_ne (tgt := 151) S he dX10_wanted_144 (by decide) (fun he => ?_) (fun he => ?_)
      · refine z_iconst (v := 0) S dX10_wanted_151 (by decide) ?_
        exact p_X10_wanted_J105_152 S  he hc hx
      · refine z_iconst (v := 1) S dX10_wanted_147 (by decide) ?_
        refine z_goto (tgt := 152) S dX10_wanted_148 (by decide) ?_
        exact p_X10_wanted_J105_152 S  he hc hx
set_option maxRecDepth 100000 in
set_option maxHeartbeats 4000000 in
theorem p_X10_wanted_L87 {X : Cx} {p : Program} {l : Launch} {e : Env} {s : State} {m : MethodId} {args : Array Value} {below : List Frame} {meth : Method} {c : Code} (S : SB X 1 p s m args meth c cX10_wanted 6 (some .int) RX10) {M : Mm} {N : Mm} {r : Int32} {v1 : Int32} {v3 : Int32} {v4 : Int32} {x : (Mm × Int32 × Int32) ⊕ (Mm × Int32)}  (he : f_X10_wanted_L87 M v1 v3 v4 = some x) (hc : ∀ b, x = .inl b → Z X 1 p l e rm_X10_wanted s m args below meth c 0 0 (MQ below (QI X 1 r N s.heap.size) args s 0 0 (AA X 1 s.heap.size)) 6 b.1 87 [(0, .ref (X.2.2 200)), (1, .int v1), (3, .int b.2.1), (4, .int b.2.2)] []) (hx : ∀ b, x = .inr b → Z X 1 p l e rm_X10_wanted s m args below meth c 0 0 (MQ below (QI X 1 r N s.heap.size) args s 0 0 (AA X 1 s.heap.size)) 6 b.1 209 [(3, .int b.2)] []) : Z X 1 p l e rm_X10_wanted s m args below meth c 0 0 (MQ below (QI X 1 r N s.heap.size) args s 0 0 (AA X 1 s.heap.size)) 6 M 87 [(0, .ref (X.2.2 200)), (1, .int v1), (3, .int v3), (4, .int v4)] [] := by
  unfold f_X10_wanted_L87 at he
  refine z_iload S dX10_wanted_87 3 rfl ?_
  refine z_bipush (v := 64) S dX10_wanted_89 (by decide) ?_
  refine z_icmp_ge (tgt := 209) S he dX10_wanted_91 (by decide) (fun he => ?_) (fun he => ?_)
  · refine z_lv (ks := [2]) rfl ?_
    exact hx _ (Option.some.inj he).symm
  · refine z_aload_n S dX10_wanted_94 rfl 0 rfl ?_
    refine z_getF (j := 216) S fo_RX10_59 16 rfl rfl ok_200 dX10_wanted_95 ?_
    refine z_iload S dX10_wanted_98 3 rfl ?_
    refine z_iconst (v := 1) S dX10_wanted_100 (by decide) ?_
    refine z_zastb S ok_216 rfl he dX10_wanted_101 (fun M3 he => ?_)
    refine z_iconst (v := 0) S dX10_wanted_102 (by decide) ?_
    refine z_istore (lv' := [(0, .ref (X.2.2 200)), (1, .int v1), (3, .int v3), (4, .int v4), (5, .int 0)]) S [1, 2, 3, 4, 0] dX10_wanted_103 (by decide) rfl ?_
    obtain ⟨e_6, hl, he⟩ := bnd he
    have hX : Z X 1 p l e rm_X10_wanted s m args below meth c 0 0 (MQ below (QI X 1 r N s.heap.size) args s 0 0 (AA X 1 s.heap.size)) 6 e_6 185 [(0, .ref (X.2.2 200)), (1, .int v1), (3, .int v3), (4, .int v4)] [] := by
      refine z_iload_n S dX10_wanted_185 rfl 2 rfl ?_
      refine z_aload_n S dX10_wanted_186 rfl 0 rfl ?_
      refine z_getF (j := 216) S fo_RX10_59 16 rfl rfl ok_200 dX10_wanted_187 ?_
      refine z_iload S dX10_wanted_190 3 rfl ?_
      refine z_zald S ok_216 rfl he dX10_wanted_192 (fun he => ?_)
      refine z_if_eq (tgt := 200) S he dX10_wanted_193 (by decide) (fun he => ?_) (fun he => ?_)
      · refine z_iconst (v := 0) S dX10_wanted_200 (by decide) ?_
        refine z_iadd S dX10_wanted_201 ?_
        refine z_istore_n (lv' := [(0, .ref (X.2.2 200)), (1, .int v1), (3, .int (v3 + 0)), (4, .int v4)]) S [1, 2, 0, 3] dX10_wanted_202 rfl (by decide) rfl ?_
        refine z_iinc (v := (v4 + 1)) (lv' := [(0, .ref (X.2.2 200)), (1, .int v1), (3, .int (v3 + 0)), (4, .int (v4 + 1))]) S [1, 2, 3, 0] 3 dX10_wanted_203 rfl (by rfl) (by decide) rfl ?_
        refine z_goto (tgt := 87) S dX10_wanted_206 (by decide) ?_
        refine z_lv (ks := [0, 1, 2, 3]) rfl ?_
        exact hc _ (Option.some.inj he).symm
      · refine z_iconst (v := 1) S dX10_wanted_196 (by decide) ?_
        refine z_goto (tgt := 201) S dX10_wanted_197 (by decide) ?_
        refine z_iadd S dX10_wanted_201 ?_
        refine z_istore_n (lv' := [(0, .ref (X.2.2 200)), (1, .int v1), (3, .int (v3 + 1)), (4, .int v4)]) S [1, 2, 0, 3] dX10_wanted_202 rfl (by decide) rfl ?_
        refine z_iinc (v := (v4 + 1)) (lv' := [(0, .ref (X.2.2 200)), (1, .int v1), (3, .int (v3 + 1)), (4, .int (v4 + 1))]) S [1, 2, 3, 0] 3 dX10_wanted_203 rfl (by rfl) (by decide) rfl ?_
        refine z_goto (tgt := 87) S dX10_wanted_206 (by decide) ?_
        refine z_lv (ks := [0, 1, 2, 3]) rfl ?_
        exact hc _ (Option.some.inj he).symm
    exact loopZ (Zh := (fun a_6 => Z X 1 p l e rm_X10_wanted s m args below meth c 0 0 (MQ below (QI X 1 r N s.heap.size) args s 0 0 (AA X 1 s.heap.size)) 6 a_6.1 105 [(0, .ref (X.2.2 200)), (1, .int v1), (3, .int v3), (4, .int v4), (5, .int a_6.2)] [])) (fun a_6 x hb hc hr => p_X10_wanted_L105 S  hb hc (fun b hxe => by rw [hr b hxe]; exact hX)) FU _ hl
set_option maxRecDepth 100000 in
set_option maxHeartbeats 4000000 in
theorem p_X10_wanted_J27 {X : Cx} {p : Program} {l : Launch} {e : Env} {s : State} {m : MethodId} {args : Array Value} {below : List Frame} {meth : Method} {c : Code} (S : SB X 1 p s m args meth c cX10_wanted 6 (some .int) RX10) {M : Mm} {N : Mm} {r : Int32} {v1 : Int32} {t0 : Int32}  (he : f_X10_wanted_J27 M v1 t0 = some (r, N)) : Z X 1 p l e rm_X10_wanted s m args below meth c 0 0 (MQ below (QI X 1 r N s.heap.size) args s 0 0 (AA X 1 s.heap.size)) 6 M 27 [(0, .ref (X.2.2 200)), (1, .int v1)] [.int t0] := by
  unfold f_X10_wanted_J27 at he
  refine z_istore_n (lv' := [(0, .ref (X.2.2 200)), (1, .int v1), (2, .int t0)]) S [1, 2, 0] dX10_wanted_27 rfl (by decide) rfl ?_
  refine z_iconst (v := 0) S dX10_wanted_28 (by decide) ?_
  refine z_istore_n (lv' := [(0, .ref (X.2.2 200)), (1, .int v1), (2, .int t0), (3, .int 0)]) S [1, 2, 3, 0] dX10_wanted_29 rfl (by decide) rfl ?_
  obtain ⟨e_2, hl, he⟩ := bnd he
  have hX : Z X 1 p l e rm_X10_wanted s m args below meth c 0 0 (MQ below (QI X 1 r N s.heap.size) args s 0 0 (AA X 1 s.heap.size)) 6 M 76 [(0, .ref (X.2.2 200)), (1, .int v1), (2, .int e_2)] [] := by
    refine z_iload_n S dX10_wanted_76 rfl 2 rfl ?_
    refine z_if_ne (tgt := 82) S he dX10_wanted_77 (by decide) (fun he => ?_) (fun he => ?_)
    · refine z_iconst (v := 0) S dX10_wanted_82 (by decide) ?_
      refine z_istore_n (lv' := [(0, .ref (X.2.2 200)), (1, .int v1), (3, .int 0)]) S [1, 2, 0] dX10_wanted_83 rfl (by decide) rfl ?_
      refine z_iconst (v := 0) S dX10_wanted_84 (by decide) ?_
      refine z_istore (lv' := [(0, .ref (X.2.2 200)), (1, .int v1), (3, .int 0), (4, .int 0)]) S [1, 2, 3, 0] dX10_wanted_85 (by decide) rfl ?_
      obtain ⟨e_7, hl, he⟩ := bnd he
      have hX : Z X 1 p l e rm_X10_wanted s m args below meth c 0 0 (MQ below (QI X 1 r N s.heap.size) args s 0 0 (AA X 1 s.heap.size)) 6 e_7.1 209 [(3, .int e_7.2)] [] := by
        refine z_iload_n S dX10_wanted_209 rfl 0 rfl ?_
        exact z_iret S (Prod.mk.inj (Option.some.inj he)) dX10_wanted_210
      exact loopZ (Zh := (fun a_7 => Z X 1 p l e rm_X10_wanted s m args below meth c 0 0 (MQ below (QI X 1 r N s.heap.size) args s 0 0 (AA X 1 s.heap.size)) 6 a_7.1 87 [(0, .ref (X.2.2 200)), (1, .int v1), (3, .int a_7.2.1), (4, .int a_7.2.2)] [])) (fun a_7 x hb hc hr => p_X10_wanted_L87 S  hb hc (fun b hxe => by rw [hr b hxe]; exact hX)) FU _ hl
    · refine z_iconst (v := (-1)) S dX10_wanted_80 (by decide) ?_
      exact z_iret S (Prod.mk.inj (Option.some.inj he)) dX10_wanted_81
  exact loopZ (Zh := (fun a_2 => Z X 1 p l e rm_X10_wanted s m args below meth c 0 0 (MQ below (QI X 1 r N s.heap.size) args s 0 0 (AA X 1 s.heap.size)) 6 M 30 [(0, .ref (X.2.2 200)), (1, .int v1), (2, .int a_2.1), (3, .int a_2.2)] [])) (fun a_2 x hb hc hr => p_X10_wanted_L30 S  hb hc (fun b hxe => by rw [hr b hxe]; exact hX)) FU _ hl
set_option maxRecDepth 100000 in
set_option maxHeartbeats 4000000 in
theorem p_X10_wanted_J26 {X : Cx} {p : Program} {l : Launch} {e : Env} {s : State} {m : MethodId} {args : Array Value} {below : List Frame} {meth : Method} {c : Code} (S : SB X 1 p s m args meth c cX10_wanted 6 (some .int) RX10) {M : Mm} {N : Mm} {r : Int32} {v1 : Int32}  (he : f_X10_wanted_J26 M v1 = some (r, N)) : Z X 1 p l e rm_X10_wanted s m args below meth c 0 0 (MQ below (QI X 1 r N s.heap.size) args s 0 0 (AA X 1 s.heap.size)) 6 M 26 [(0, .ref (X.2.2 200)), (1, .int v1)] [] := by
  unfold f_X10_wanted_J26 at he
  refine z_iconst (v := 0) S dX10_wanted_26 (by decide) ?_
  exact p_X10_wanted_J27 S  he
set_option maxRecDepth 100000 in
set_option maxHeartbeats 4000000 in
theorem K_X10_wanted {X : Cx} {l : Launch} {M : Mm} {r : Int32} {N : Mm}  (he : f_X10_wanted M  = some (r, N)) : KI X 1 l yX10_wanted (wz yX10_wanted cX10_wanted 6 (some .int)) rm_X10_wanted [.ref (X.2.2 200)] M r N := by
  intro sz
  refine K_of (Qc := (fun sz => QI X 1 r N sz)) (own := RX10) (lv0 := [(0, .ref (X.2.2 200))]) (by decide +kernel) rfl (Nat.le_of_ble_eq_true rfl) rfl (fun p e s m args below meth c S => ?_) sz
  · unfold f_X10_wanted at he
    refine z_aload_n S dX10_wanted_0 rfl 0 rfl ?_
    refine z_getI S fo_RX10_74 rfl ok_200 dX10_wanted_1 ?_
    refine z_istore_n (lv' := [(0, .ref (X.2.2 200)), (1, .int (gI M 200 8))]) S [1, 0] dX10_wanted_4 rfl (by decide) rfl ?_
    refine z_aload_n S dX10_wanted_5 rfl 0 rfl ?_
    refine z_iconst (v := 0) S dX10_wanted_6 (by decide) ?_
    refine z_putIb S fo_RX10_74p rfl ok_200 rfl rfl he dX10_wanted_7 (fun M1 he => ?_)
    refine z_iload_n S dX10_wanted_10 rfl 1 rfl ?_
    refine z_iconst (v := 2) S dX10_wanted_11 (by decide) ?_
    refine z_irem S (by decide) dX10_wanted_12 ?_
    refine z_if_ne (tgt := 26) S he dX10_wanted_13 (by decide) (fun he => ?_) (fun he => ?_)
    · exact p_X10_wanted_J26 S  he
    · refine z_iload_n S dX10_wanted_16 rfl 1 rfl ?_
      refine z_bipush (v := 40) S dX10_wanted_17 (by decide) ?_
      refine z_icmp_gt (tgt := 26) S he dX10_wanted_19 (by decide) (fun he => ?_) (fun he => ?_)
      · exact p_X10_wanted_J26 S  he
      · refine z_iconst (v := 1) S dX10_wanted_22 (by decide) ?_
        refine z_goto (tgt := 27) S dX10_wanted_23 (by decide) ?_
        exact p_X10_wanted_J27 S  he
set_option maxRecDepth 100000 in
set_option maxHeartbeats 4000000 in
theorem p_X10_wants_L39 {X : Cx} {p : Program} {l : Launch} {e : Env} {s : State} {m : MethodId} {args : Array Value} {below : List Frame} {meth : Method} {c : Code} (S : SB X 1 p s m args meth c cX10_wants 5 (some .int) RX10) {M : Mm} {N : Mm} {r : Int32} {v3 : Int32} {v4 : Int32} {x : (Int32 × Int32) ⊕ Int32}  (he : f_X10_wants_L39 M v3 v4 = some x) (hc : ∀ b, x = .inl b → Z X 1 p l e rm_X10_wants s m args below meth c 0 0 (MQ below (QI X 1 r N s.heap.size) args s 0 0 (AA X 1 s.heap.size)) 5 M 39 [(0, .ref (X.2.2 200)), (3, .int b.1), (4, .int b.2)] []) (hx : ∀ b, x = .inr b → Z X 1 p l e rm_X10_wants s m args below meth c 0 0 (MQ below (QI X 1 r N s.heap.size) args s 0 0 (AA X 1 s.heap.size)) 5 M 82 [(3, .int b)] []) : Z X 1 p l e rm_X10_wants s m args below meth c 0 0 (MQ below (QI X 1 r N s.heap.size) args s 0 0 (AA X 1 s.heap.size)) 5 M 39 [(0, .ref (X.2.2 200)), (3, .int v3), (4, .int v4)] [] := by
  unfold f_X10_wants_L39 at he
  refine z_iload S dX10_wants_39 2 rfl ?_
  refine z_bipush (v := 64) S dX10_wants_41 (by decide) ?_
  refine z_icmp_ge (tgt := 82) S he dX10_wants_43 (by decide) (fun he => ?_) (fun he => ?_)
  · refine z_lv (ks := [1]) rfl ?_
    exact hx _ (Option.some.inj he).symm
  · refine z_aload_n S dX10_wants_46 rfl 0 rfl ?_
    refine z_getF (j := 216) S fo_RX10_59 16 rfl rfl ok_200 dX10_wants_47 ?_
    refine z_iload S dX10_wants_50 2 rfl ?_
    refine z_zald S ok_216 rfl he dX10_wants_52 (fun he => ?_)
    refine z_if_eq (tgt := 76) S he dX10_wants_53 (by decide) (fun he => ?_) (fun he => ?_)
    · refine z_iinc (v := (v4 + 1)) (lv' := [(0, .ref (X.2.2 200)), (3, .int v3), (4, .int (v4 + 1))]) S [1, 2, 0] 2 dX10_wants_76 rfl (by rfl) (by decide) rfl ?_
      refine z_goto (tgt := 39) S dX10_wants_79 (by decide) ?_
      refine z_lv (ks := [0, 1, 2]) rfl ?_
      exact hc _ (Option.some.inj he).symm
    · refine z_iload_n S dX10_wants_56 rfl 1 rfl ?_
      refine z_iconst (v := (-1)) S dX10_wants_57 (by decide) ?_
      refine z_icmp_eq (tgt := 73) S he dX10_wants_58 (by decide) (fun he => ?_) (fun he => ?_)
      · refine z_iload S dX10_wants_73 2 rfl ?_
        refine z_istore_n (lv' := [(0, .ref (X.2.2 200)), (3, .int v4), (4, .int v4)]) S [1, 0, 2] dX10_wants_75 rfl (by decide) rfl ?_
        refine z_iinc (v := (v4 + 1)) (lv' := [(0, .ref (X.2.2 200)), (3, .int v4), (4, .int (v4 + 1))]) S [1, 2, 0] 2 dX10_wants_76 rfl (by rfl) (by decide) rfl ?_
        refine z_goto (tgt := 39) S dX10_wants_79 (by decide) ?_
        refine z_lv (ks := [0, 1, 2]) rfl ?_
        exact hc _ (Option.some.inj he).symm
      · refine z_iload S dX10_wants_61 2 rfl ?_
        obtain ⟨r4, h9, he⟩ := bnd he
        refine z_cSI (As := [.int v4]) S cs_RX10_321 (K_X10_bits  h9) ⟨rfl, rfl⟩ ⟨Nat.le_of_ble_eq_true rfl, Nat.le_of_ble_eq_true rfl⟩ ⟨Nat.le_refl _, Nat.le_refl _⟩ rfl rfl (Nat.le_of_ble_eq_true rfl) dX10_wants_63 ?_
        refine z_iload_n S dX10_wants_66 rfl 1 rfl ?_
        obtain ⟨r5, h9, he⟩ := bnd he
        refine z_cSI (As := [.int v3]) S cs_RX10_321 (K_X10_bits  h9) ⟨rfl, rfl⟩ ⟨Nat.le_of_ble_eq_true rfl, Nat.le_of_ble_eq_true rfl⟩ ⟨Nat.le_refl _, Nat.le_refl _⟩ rfl rfl (Nat.le_of_ble_eq_true rfl) dX10_wants_67 ?_
        refine z_icmp_ge (tgt := 76) S he dX10_wants_70 (by decide) (fun he => ?_) (fun he => ?_)
        · refine z_iinc (v := (v4 + 1)) (lv' := [(0, .ref (X.2.2 200)), (3, .int v3), (4, .int (v4 + 1))]) S [1, 2, 0] 2 dX10_wants_76 rfl (by rfl) (by decide) rfl ?_
          refine z_goto (tgt := 39) S dX10_wants_79 (by decide) ?_
          refine z_lv (ks := [0, 1, 2]) rfl ?_
          exact hc _ (Option.some.inj he).symm
        · refine z_iload S dX10_wants_73 2 rfl ?_
          refine z_istore_n (lv' := [(0, .ref (X.2.2 200)), (3, .int v4), (4, .int v4)]) S [1, 0, 2] dX10_wants_75 rfl (by decide) rfl ?_
          refine z_iinc (v := (v4 + 1)) (lv' := [(0, .ref (X.2.2 200)), (3, .int v4), (4, .int (v4 + 1))]) S [1, 2, 0] 2 dX10_wants_76 rfl (by rfl) (by decide) rfl ?_
          refine z_goto (tgt := 39) S dX10_wants_79 (by decide) ?_
          refine z_lv (ks := [0, 1, 2]) rfl ?_
          exact hc _ (Option.some.inj he).symm
set_option maxRecDepth 100000 in
set_option maxHeartbeats 4000000 in
theorem p_X10_wants_J16 {X : Cx} {p : Program} {l : Launch} {e : Env} {s : State} {m : MethodId} {args : Array Value} {below : List Frame} {meth : Method} {c : Code} (S : SB X 1 p s m args meth c cX10_wants 5 (some .int) RX10) {M : Mm} {N : Mm} {r : Int32} {v1 : Int32} {v2 : Int32} {t0 : Int32}  (he : f_X10_wants_J16 M v1 v2 t0 = some (r, N)) : Z X 1 p l e rm_X10_wants s m args below meth c 0 0 (MQ below (QI X 1 r N s.heap.size) args s 0 0 (AA X 1 s.heap.size)) 5 M 16 [(0, .ref (X.2.2 200)), (1, .int v1), (2, .int v2)] [.int t0, .ref (X.2.2 200)] := by
  unfold f_X10_wants_J16 at he
  refine z_putIb S fo_RX10_63p rfl ok_200 rfl rfl he dX10_wants_16 (fun M3 he => ?_)
  refine z_aload_n S dX10_wants_19 rfl 0 rfl ?_
  refine z_getI S fo_RX10_63 rfl ok_200 dX10_wants_20 ?_
  refine z_if_le (tgt := 28) S he dX10_wants_23 (by decide) (fun he => ?_) (fun he => ?_)
  · refine z_iload_n S dX10_wants_28 rfl 1 rfl ?_
    refine z_if_ne (tgt := 34) S he dX10_wants_29 (by decide) (fun he => ?_) (fun he => ?_)
    · refine z_iconst (v := (-1)) S dX10_wants_34 (by decide) ?_
      refine z_istore_n (lv' := [(0, .ref (X.2.2 200)), (3, .int (-1))]) S [1, 0] dX10_wants_35 rfl (by decide) rfl ?_
      refine z_iconst (v := 0) S dX10_wants_36 (by decide) ?_
      refine z_istore (lv' := [(0, .ref (X.2.2 200)), (3, .int (-1)), (4, .int 0)]) S [1, 2, 0] dX10_wants_37 (by decide) rfl ?_
      obtain ⟨e_6, hl, he⟩ := bnd he
      have hX : Z X 1 p l e rm_X10_wants s m args below meth c 0 0 (MQ below (QI X 1 r N s.heap.size) args s 0 0 (AA X 1 s.heap.size)) 5 M3 82 [(3, .int e_6)] [] := by
        refine z_iload_n S dX10_wants_82 rfl 0 rfl ?_
        exact z_iret S (Prod.mk.inj (Option.some.inj he)) dX10_wants_83
      exact loopZ (Zh := (fun a_6 => Z X 1 p l e rm_X10_wants s m args below meth c 0 0 (MQ below (QI X 1 r N s.heap.size) args s 0 0 (AA X 1 s.heap.size)) 5 M3 39 [(0, .ref (X.2.2 200)), (3, .int a_6.1), (4, .int a_6.2)] [])) (fun a_6 x hb hc hr => p_X10_wants_L39 S  hb hc (fun b hxe => by rw [hr b hxe]; exact hX)) FU _ hl
    · refine z_iload_n S dX10_wants_32 rfl 2 rfl ?_
      exact z_iret S (Prod.mk.inj (Option.some.inj he)) dX10_wants_33
  · refine z_iconst (v := 0) S dX10_wants_26 (by decide) ?_
    exact z_iret S (Prod.mk.inj (Option.some.inj he)) dX10_wants_27
set_option maxRecDepth 100000 in
set_option maxHeartbeats 4000000 in
theorem K_X10_wants {X : Cx} {l : Launch} {M : Mm} {a1 : Int32} {r : Int32} {N : Mm}  (he : f_X10_wants M a1 = some (r, N)) : KI X 1 l yX10_wants (wz yX10_wants cX10_wants 5 (some .int)) rm_X10_wants [.ref (X.2.2 200), .int a1] M r N := by
  intro sz
  refine K_of (Qc := (fun sz => QI X 1 r N sz)) (own := RX10) (lv0 := [(0, .ref (X.2.2 200)), (1, .int a1)]) (by decide +kernel) rfl (Nat.le_of_ble_eq_true rfl) rfl (fun p e s m args below meth c S => ?_) sz
  · unfold f_X10_wants at he
    refine z_aload_n S dX10_wants_0 rfl 0 rfl ?_
    obtain ⟨⟨r1, M2⟩, h9, he⟩ := bnd he
    dsimp only at he
    refine z_cVI (As := []) S cv_RX10_341 (K_X10_wanted  h9) ok_200 (by decide) (q := (RX10, TX10, 28)) rfl rfl ⟨rfl, rfl⟩ ⟨Nat.le_of_ble_eq_true rfl, Nat.le_of_ble_eq_true rfl⟩ ⟨Nat.le_refl _, Nat.le_refl _⟩ rfl rfl (Nat.le_of_ble_eq_true rfl) dX10_wants_1 ?_
    refine z_istore_n (lv' := [(0, .ref (X.2.2 200)), (1, .int a1), (2, .int r1)]) S [1, 2, 0] dX10_wants_4 rfl (by decide) rfl ?_
    refine z_aload_n S dX10_wants_5 rfl 0 rfl ?_
    refine z_iload_n S dX10_wants_6 rfl 2 rfl ?_
    refine z_iconst (v := (-1)) S dX10_wants_7 (by decide) ?_
    refine z_icmp_ne (tgt := 15) S he dX10_wants_8 (by decide) (fun he => ?_) (fun he => ?_)
    · refine z_iconst (v := 0) S dX10_wants_15 (by decide) ?_
      exact p_X10_wants_J16 S  he
    · refine z_iconst (v := 1) S dX10_wants_11 (by decide) ?_
      refine z_goto (tgt := 16) S dX10_wants_12 (by decide) ?_
      exact p_X10_wants_J16 S  he
set_option maxRecDepth 100000 in
set_option maxHeartbeats 4000000 in
theorem p_X10_send_J59_97 {X : Cx} {p : Program} {l : Launch} {e : Env} {s : State} {m : MethodId} {args : Array Value} {below : List Frame} {meth : Method} {c : Code} (S : SB X 1 p s m args meth c cX10_send 7 (some .int) RX10) {M : Mm} {N : Mm} {r : Int32} {v1 : Int32} {v2 : Int32} {v3 : Int32} {v4 : Int32} {v6 : Int32} {t0 : Int32} {x : (Int32 × Int32) ⊕ Int32}  (he : f_X10_send_J59_97 M v1 v2 v3 v4 v6 t0 = some x) (hc : ∀ b, x = .inl b → Z X 1 p l e rm_X10_send s m args below meth c 0 0 (MQ below (QI X 1 r N s.heap.size) args s 0 0 (AA X 1 s.heap.size)) 7 M 59 [(0, .ref (X.2.2 200)), (1, .int v1), (2, .int v2), (3, .int v3), (4, .int v4), (5, .int b.1), (6, .int b.2)] []) (hx : ∀ b, x = .inr b → Z X 1 p l e rm_X10_send s m args below meth c 0 0 (MQ below (QI X 1 r N s.heap.size) args s 0 0 (AA X 1 s.heap.size)) 7 M 107 [(0, .ref (X.2.2 200)), (1, .int v1), (2, .int v2), (3, .int v3), (4, .int v4), (5, .int b)] []) : Z X 1 p l e rm_X10_send s m args below meth c 0 0 (MQ below (QI X 1 r N s.heap.size) args s 0 0 (AA X 1 s.heap.size)) 7 M 97 [(0, .ref (X.2.2 200)), (1, .int v1), (2, .int v2), (3, .int v3), (4, .int v4), (6, .int v6)] [.int t0] := by
  unfold f_X10_send_J59_97 at he
  refine z_iconst (v := 0) S dX10_send_97 (by decide) ?_
  refine z_iadd S dX10_send_98 ?_
  refine z_istore (lv' := [(0, .ref (X.2.2 200)), (1, .int v1), (2, .int v2), (3, .int v3), (4, .int v4), (5, .int (t0 + 0)), (6, .int v6)]) S [1, 2, 3, 4, 5, 0, 6] dX10_send_99 (by decide) rfl ?_
  refine z_iinc (v := (v6 + 1)) (lv' := [(0, .ref (X.2.2 200)), (1, .int v1), (2, .int v2), (3, .int v3), (4, .int v4), (5, .int (t0 + 0)), (6, .int (v6 + 1))]) S [1, 2, 3, 4, 5, 6, 0] 6 dX10_send_101 rfl (by rfl) (by decide) rfl ?_
  refine z_goto (tgt := 59) S dX10_send_104 (by decide) ?_
  refine z_lv (ks := [0, 1, 2, 3, 4, 5, 6]) rfl ?_
  exact hc _ (Option.some.inj he).symm
set_option maxRecDepth 100000 in
set_option maxHeartbeats 4000000 in
theorem p_X10_send_L59 {X : Cx} {p : Program} {l : Launch} {e : Env} {s : State} {m : MethodId} {args : Array Value} {below : List Frame} {meth : Method} {c : Code} (S : SB X 1 p s m args meth c cX10_send 7 (some .int) RX10) {M : Mm} {N : Mm} {r : Int32} {v1 : Int32} {v2 : Int32} {v3 : Int32} {v4 : Int32} {v5 : Int32} {v6 : Int32} {x : (Int32 × Int32) ⊕ Int32}  (he : f_X10_send_L59 M v1 v2 v3 v4 v5 v6 = some x) (hc : ∀ b, x = .inl b → Z X 1 p l e rm_X10_send s m args below meth c 0 0 (MQ below (QI X 1 r N s.heap.size) args s 0 0 (AA X 1 s.heap.size)) 7 M 59 [(0, .ref (X.2.2 200)), (1, .int v1), (2, .int v2), (3, .int v3), (4, .int v4), (5, .int b.1), (6, .int b.2)] []) (hx : ∀ b, x = .inr b → Z X 1 p l e rm_X10_send s m args below meth c 0 0 (MQ below (QI X 1 r N s.heap.size) args s 0 0 (AA X 1 s.heap.size)) 7 M 107 [(0, .ref (X.2.2 200)), (1, .int v1), (2, .int v2), (3, .int v3), (4, .int v4), (5, .int b)] []) : Z X 1 p l e rm_X10_send s m args below meth c 0 0 (MQ below (QI X 1 r N s.heap.size) args s 0 0 (AA X 1 s.heap.size)) 7 M 59 [(0, .ref (X.2.2 200)), (1, .int v1), (2, .int v2), (3, .int v3), (4, .int v4), (5, .int v5), (6, .int v6)] [] := by
  unfold f_X10_send_L59 at he
  refine z_iload S dX10_send_59 6 rfl ?_
  refine z_bipush (v := 64) S dX10_send_61 (by decide) ?_
  refine z_icmp_ge (tgt := 107) S he dX10_send_63 (by decide) (fun he => ?_) (fun he => ?_)
  · refine z_lv (ks := [0, 1, 2, 3, 4, 5]) rfl ?_
    exact hx _ (Option.some.inj he).symm
  · refine z_iload S dX10_send_66 5 rfl ?_
    refine z_aload_n S dX10_send_68 rfl 0 rfl ?_
    refine z_getF (j := 216) S fo_RX10_59 16 rfl rfl ok_200 dX10_send_69 ?_
    refine z_iload S dX10_send_72 6 rfl ?_
    refine z_zald S ok_216 rfl he dX10_send_74 (fun he => ?_)
    refine z_if_eq (tgt := 97) S he dX10_send_75 (by decide) (fun he => ?_) (fun he => ?_)
    · refine z_lv (ks := [0, 1, 2, 3, 4, 6]) rfl ?_
      exact p_X10_send_J59_97 S  he hc hx
    · refine z_iload S dX10_send_78 6 rfl ?_
      refine z_aload_n S dX10_send_80 rfl 0 rfl ?_
      refine z_iload S dX10_send_81 4 rfl ?_
      refine z_iconst (v := 4) S dX10_send_83 (by decide) ?_
      obtain ⟨r4, h9, he⟩ := bnd he
      refine z_cVI (As := [.int v4, .int 4]) S cv_RX10_246 (K_X10_ofOne  h9) ok_200 (by decide) (q := (RX10, TX10, 28)) rfl rfl ⟨rfl, rfl⟩ ⟨Nat.le_of_ble_eq_true rfl, Nat.le_of_ble_eq_true rfl⟩ ⟨Nat.le_refl _, Nat.le_refl _⟩ rfl rfl (Nat.le_of_ble_eq_true rfl) dX10_send_84 ?_
      refine z_iconst (v := (-1)) S dX10_send_87 (by decide) ?_
      refine z_ixor S dX10_send_88 ?_
      refine z_iand S dX10_send_89 ?_
      refine z_if_ne (tgt := 97) S he dX10_send_90 (by decide) (fun he => ?_) (fun he => ?_)
      · refine z_lv (ks := [0, 1, 2, 3, 4, 6]) rfl ?_
        exact p_X10_send_J59_97 S  he hc hx
      · refine z_iconst (v := 1) S dX10_send_93 (by decide) ?_
        refine z_goto (tgt := 98) S dX10_send_94 (by decide) ?_
        refine z_iadd S dX10_send_98 ?_
        refine z_istore (lv' := [(0, .ref (X.2.2 200)), (1, .int v1), (2, .int v2), (3, .int v3), (4, .int v4), (5, .int (v5 + 1)), (6, .int v6)]) S [1, 2, 3, 4, 5, 0, 6] dX10_send_99 (by decide) rfl ?_
        refine z_iinc (v := (v6 + 1)) (lv' := [(0, .ref (X.2.2 200)), (1, .int v1), (2, .int v2), (3, .int v3), (4, .int v4), (5, .int (v5 + 1)), (6, .int (v6 + 1))]) S [1, 2, 3, 4, 5, 6, 0] 6 dX10_send_101 rfl (by rfl) (by decide) rfl ?_
        refine z_goto (tgt := 59) S dX10_send_104 (by decide) ?_
        refine z_lv (ks := [0, 1, 2, 3, 4, 5, 6]) rfl ?_
        exact hc _ (Option.some.inj he).symm
set_option maxRecDepth 100000 in
set_option maxHeartbeats 4000000 in
theorem p_X10_send_L37 {X : Cx} {p : Program} {l : Launch} {e : Env} {s : State} {m : MethodId} {args : Array Value} {below : List Frame} {meth : Method} {c : Code} (S : SB X 1 p s m args meth c cX10_send 7 (some .int) RX10) {M : Mm} {N : Mm} {r : Int32} {v1 : Int32} {v2 : Int32} {v3 : Int32} {v4 : Int32} {x : (Int32 × Int32 × Int32) ⊕ Int32}  (he : f_X10_send_L37 M v1 v2 v3 v4 = some x) (hc : ∀ b, x = .inl b → Z X 1 p l e rm_X10_send s m args below meth c 0 0 (MQ below (QI X 1 r N s.heap.size) args s 0 0 (AA X 1 s.heap.size)) 7 M 37 [(0, .ref (X.2.2 200)), (1, .int v1), (2, .int b.1), (3, .int b.2.1), (4, .int b.2.2)] []) (hx : ∀ b, x = .inr b → Z X 1 p l e rm_X10_send s m args below meth c 0 0 (MQ below (QI X 1 r N s.heap.size) args s 0 0 (AA X 1 s.heap.size)) 7 M 142 [(2, .int b)] []) : Z X 1 p l e rm_X10_send s m args below meth c 0 0 (MQ below (QI X 1 r N s.heap.size) args s 0 0 (AA X 1 s.heap.size)) 7 M 37 [(0, .ref (X.2.2 200)), (1, .int v1), (2, .int v2), (3, .int v3), (4, .int v4)] [] := by
  unfold f_X10_send_L37 at he
  refine z_iload S dX10_send_37 4 rfl ?_
  refine z_aload_n S dX10_send_39 rfl 0 rfl ?_
  refine z_getF (j := 201) S fo_RX10_7 1 rfl rfl ok_200 dX10_send_40 ?_
  refine z_iconst (v := 4) S dX10_send_43 (by decide) ?_
  refine z_iald S ok_201 rfl he dX10_send_44 (fun he => ?_)
  refine z_icmp_ge (tgt := 142) S he dX10_send_45 (by decide) (fun he => ?_) (fun he => ?_)
  · refine z_lv (ks := [2]) rfl ?_
    exact hx _ (Option.some.inj he).symm
  · refine z_iload_n S dX10_send_48 rfl 1 rfl ?_
    refine z_iconst (v := 1) S dX10_send_49 (by decide) ?_
    refine z_icmp_le (tgt := 142) S he dX10_send_50 (by decide) (fun he => ?_) (fun he => ?_)
    · refine z_lv (ks := [2]) rfl ?_
      exact hx _ (Option.some.inj he).symm
    · refine z_iconst (v := 0) S dX10_send_53 (by decide) ?_
      refine z_istore (lv' := [(0, .ref (X.2.2 200)), (1, .int v1), (2, .int v2), (3, .int v3), (4, .int v4), (5, .int 0)]) S [1, 2, 3, 4, 5, 0] dX10_send_54 (by decide) rfl ?_
      refine z_iconst (v := 0) S dX10_send_56 (by decide) ?_
      refine z_istore (lv' := [(0, .ref (X.2.2 200)), (1, .int v1), (2, .int v2), (3, .int v3), (4, .int v4), (5, .int 0), (6, .int 0)]) S [1, 2, 3, 4, 5, 6, 0] dX10_send_57 (by decide) rfl ?_
      obtain ⟨e_5, hl, he⟩ := bnd he
      have hX : Z X 1 p l e rm_X10_send s m args below meth c 0 0 (MQ below (QI X 1 r N s.heap.size) args s 0 0 (AA X 1 s.heap.size)) 7 M 107 [(0, .ref (X.2.2 200)), (1, .int v1), (2, .int v2), (3, .int v3), (4, .int v4), (5, .int e_5)] [] := by
        refine z_iload S dX10_send_107 5 rfl ?_
        refine z_iload_n S dX10_send_109 rfl 1 rfl ?_
        refine z_iload S dX10_send_110 5 rfl ?_
        refine z_isub S dX10_send_112 ?_
        refine z_cSI (As := [.int e_5, .int (v1 - e_5)]) S cs_RX10_249 (K_X10_greater  rfl) ⟨rfl, rfl⟩ ⟨Nat.le_of_ble_eq_true rfl, Nat.le_of_ble_eq_true rfl⟩ ⟨Nat.le_refl _, Nat.le_refl _⟩ rfl rfl (Nat.le_of_ble_eq_true rfl) dX10_send_113 ?_
        refine z_iload_n S dX10_send_116 rfl 3 rfl ?_
        refine z_icmp_lt (tgt := 123) S he dX10_send_117 (by decide) (fun he => ?_) (fun he => ?_)
        · refine z_iload S dX10_send_123 5 rfl ?_
          refine z_iload_n S dX10_send_125 rfl 1 rfl ?_
          refine z_iload S dX10_send_126 5 rfl ?_
          refine z_isub S dX10_send_128 ?_
          refine z_cSI (As := [.int e_5, .int (v1 - e_5)]) S cs_RX10_249 (K_X10_greater  rfl) ⟨rfl, rfl⟩ ⟨Nat.le_of_ble_eq_true rfl, Nat.le_of_ble_eq_true rfl⟩ ⟨Nat.le_refl _, Nat.le_refl _⟩ rfl rfl (Nat.le_of_ble_eq_true rfl) dX10_send_129 ?_
          obtain ⟨x6, ex6, he⟩ := bnd he
          rw [Option.some.inj ex6]
          refine z_istore_n (lv' := [(0, .ref (X.2.2 200)), (1, .int v1), (3, .int x6), (4, .int v4)]) S [1, 2, 0, 4] dX10_send_132 rfl (by decide) rfl ?_
          refine z_iload S dX10_send_133 3 rfl ?_
          refine z_istore_n (lv' := [(0, .ref (X.2.2 200)), (1, .int v1), (2, .int v4), (3, .int x6), (4, .int v4)]) S [1, 2, 0, 3, 4] dX10_send_135 rfl (by decide) rfl ?_
          refine z_iinc (v := (v4 + 1)) (lv' := [(0, .ref (X.2.2 200)), (1, .int v1), (2, .int v4), (3, .int x6), (4, .int (v4 + 1))]) S [1, 2, 3, 4, 0] 4 dX10_send_136 rfl (by rfl) (by decide) rfl ?_
          refine z_goto (tgt := 37) S dX10_send_139 (by decide) ?_
          refine z_lv (ks := [0, 1, 2, 3, 4]) rfl ?_
          exact hc _ (Option.some.inj he).symm
        · refine z_goto (tgt := 136) S dX10_send_120 (by decide) ?_
          refine z_iinc (v := (v4 + 1)) (lv' := [(0, .ref (X.2.2 200)), (1, .int v1), (2, .int v2), (3, .int v3), (4, .int (v4 + 1)), (5, .int e_5)]) S [1, 2, 3, 4, 0, 5] 4 dX10_send_136 rfl (by rfl) (by decide) rfl ?_
          refine z_goto (tgt := 37) S dX10_send_139 (by decide) ?_
          refine z_lv (ks := [0, 1, 2, 3, 4]) rfl ?_
          exact hc _ (Option.some.inj he).symm
      exact loopZ (Zh := (fun a_5 => Z X 1 p l e rm_X10_send s m args below meth c 0 0 (MQ below (QI X 1 r N s.heap.size) args s 0 0 (AA X 1 s.heap.size)) 7 M 59 [(0, .ref (X.2.2 200)), (1, .int v1), (2, .int v2), (3, .int v3), (4, .int v4), (5, .int a_5.1), (6, .int a_5.2)] [])) (fun a_5 x hb hc hr => p_X10_send_L59 S  hb hc (fun b hxe => by rw [hr b hxe]; exact hX)) FU _ hl
set_option maxRecDepth 100000 in
set_option maxHeartbeats 4000000 in
theorem p_X10_send_J16 {X : Cx} {p : Program} {l : Launch} {e : Env} {s : State} {m : MethodId} {args : Array Value} {below : List Frame} {meth : Method} {c : Code} (S : SB X 1 p s m args meth c cX10_send 7 (some .int) RX10) {M : Mm} {N : Mm} {r : Int32} {v1 : Int32} {t0 : Int32}  (he : f_X10_send_J16 M v1 t0 = some (r, N)) : Z X 1 p l e rm_X10_send s m args below meth c 0 0 (MQ below (QI X 1 r N s.heap.size) args s 0 0 (AA X 1 s.heap.size)) 7 M 16 [(0, .ref (X.2.2 200)), (1, .int v1)] [.int t0, .ref (X.2.2 200)] := by
  unfold f_X10_send_J16 at he
  refine z_putIb S fo_RX10_63p rfl ok_200 rfl rfl he dX10_send_16 (fun M3 he => ?_)
  refine z_aload_n S dX10_send_19 rfl 0 rfl ?_
  refine z_getI S fo_RX10_63 rfl ok_200 dX10_send_20 ?_
  refine z_if_le (tgt := 28) S he dX10_send_23 (by decide) (fun he => ?_) (fun he => ?_)
  · refine z_iconst (v := (-1)) S dX10_send_28 (by decide) ?_
    refine z_istore_n (lv' := [(0, .ref (X.2.2 200)), (1, .int v1), (2, .int (-1))]) S [1, 2, 0] dX10_send_29 rfl (by decide) rfl ?_
    refine z_ldcw (v := 2000000000) S kc_RX10_344 dX10_send_30 ?_
    refine z_istore_n (lv' := [(0, .ref (X.2.2 200)), (1, .int v1), (2, .int (-1)), (3, .int 2000000000)]) S [1, 2, 3, 0] dX10_send_33 rfl (by decide) rfl ?_
    refine z_iconst (v := 0) S dX10_send_34 (by decide) ?_
    refine z_istore (lv' := [(0, .ref (X.2.2 200)), (1, .int v1), (2, .int (-1)), (3, .int 2000000000), (4, .int 0)]) S [1, 2, 3, 4, 0] dX10_send_35 (by decide) rfl ?_
    obtain ⟨e_7, hl, he⟩ := bnd he
    have hX : Z X 1 p l e rm_X10_send s m args below meth c 0 0 (MQ below (QI X 1 r N s.heap.size) args s 0 0 (AA X 1 s.heap.size)) 7 M3 142 [(2, .int e_7)] [] := by
      refine z_iload_n S dX10_send_142 rfl 0 rfl ?_
      exact z_iret S (Prod.mk.inj (Option.some.inj he)) dX10_send_143
    exact loopZ (Zh := (fun a_7 => Z X 1 p l e rm_X10_send s m args below meth c 0 0 (MQ below (QI X 1 r N s.heap.size) args s 0 0 (AA X 1 s.heap.size)) 7 M3 37 [(0, .ref (X.2.2 200)), (1, .int v1), (2, .int a_7.1), (3, .int a_7.2.1), (4, .int a_7.2.2)] [])) (fun a_7 x hb hc hr => p_X10_send_L37 S  hb hc (fun b hxe => by rw [hr b hxe]; exact hX)) FU _ hl
  · refine z_iconst (v := 0) S dX10_send_26 (by decide) ?_
    exact z_iret S (Prod.mk.inj (Option.some.inj he)) dX10_send_27
set_option maxRecDepth 100000 in
set_option maxHeartbeats 4000000 in
theorem K_X10_send {X : Cx} {l : Launch} {M : Mm} {r : Int32} {N : Mm}  (he : f_X10_send M  = some (r, N)) : KI X 1 l yX10_send (wz yX10_send cX10_send 7 (some .int)) rm_X10_send [.ref (X.2.2 200)] M r N := by
  intro sz
  refine K_of (Qc := (fun sz => QI X 1 r N sz)) (own := RX10) (lv0 := [(0, .ref (X.2.2 200))]) (by decide +kernel) rfl (Nat.le_of_ble_eq_true rfl) rfl (fun p e s m args below meth c S => ?_) sz
  · unfold f_X10_send at he
    refine z_aload_n S dX10_send_0 rfl 0 rfl ?_
    obtain ⟨⟨r1, M2⟩, h9, he⟩ := bnd he
    dsimp only at he
    refine z_cVI (As := []) S cv_RX10_341 (K_X10_wanted  h9) ok_200 (by decide) (q := (RX10, TX10, 28)) rfl rfl ⟨rfl, rfl⟩ ⟨Nat.le_of_ble_eq_true rfl, Nat.le_of_ble_eq_true rfl⟩ ⟨Nat.le_refl _, Nat.le_refl _⟩ rfl rfl (Nat.le_of_ble_eq_true rfl) dX10_send_1 ?_
    refine z_istore_n (lv' := [(0, .ref (X.2.2 200)), (1, .int r1)]) S [1, 0] dX10_send_4 rfl (by decide) rfl ?_
    refine z_aload_n S dX10_send_5 rfl 0 rfl ?_
    refine z_iload_n S dX10_send_6 rfl 1 rfl ?_
    refine z_iconst (v := (-1)) S dX10_send_7 (by decide) ?_
    refine z_icmp_ne (tgt := 15) S he dX10_send_8 (by decide) (fun he => ?_) (fun he => ?_)
    · refine z_iconst (v := 0) S dX10_send_15 (by decide) ?_
      exact p_X10_send_J16 S  he
    · refine z_iconst (v := 1) S dX10_send_11 (by decide) ?_
      refine z_goto (tgt := 16) S dX10_send_12 (by decide) ?_
      exact p_X10_send_J16 S  he
set_option maxRecDepth 100000 in
set_option maxHeartbeats 4000000 in
theorem p_X10_steps_J21 {X : Cx} {p : Program} {l : Launch} {e : Env} {s : State} {m : MethodId} {args : Array Value} {below : List Frame} {meth : Method} {c : Code} (S : SB X 1 p s m args meth c cX10_steps 2 (some .int) RX10) {M : Mm} {N : Mm} {r : Int32} {v1 : Int32} {t0 : Int32}  (he : f_X10_steps_J21 M v1 t0 = some (r, N)) : Z X 1 p l e rm_X10_steps s m args below meth c 0 0 (MQ below (QI X 1 r N s.heap.size) args s 0 0 (AA X 1 s.heap.size)) 2 M 21 [(0, .ref (X.2.2 200)), (1, .int v1)] [.int t0, .ref (X.2.2 200)] := by
  unfold f_X10_steps_J21 at he
  refine z_putIb S fo_RX10_63p rfl ok_200 rfl rfl he dX10_steps_21 (fun M1 he => ?_)
  refine z_aload_n S dX10_steps_24 rfl 0 rfl ?_
  refine z_getI S fo_RX10_63 rfl ok_200 dX10_steps_25 ?_
  refine z_if_le (tgt := 33) S he dX10_steps_28 (by decide) (fun he => ?_) (fun he => ?_)
  · refine z_iload_n S dX10_steps_33 rfl 1 rfl ?_
    refine z_iconst (v := (-1)) S dX10_steps_34 (by decide) ?_
    refine z_icmp_ne (tgt := 59) S he dX10_steps_35 (by decide) (fun he => ?_) (fun he => ?_)
    · refine z_iload_n S dX10_steps_59 rfl 1 rfl ?_
      refine z_aload_n S dX10_steps_60 rfl 0 rfl ?_
      refine z_getF (j := 201) S fo_RX10_7 1 rfl rfl ok_200 dX10_steps_61 ?_
      refine z_iconst (v := 5) S dX10_steps_64 (by decide) ?_
      refine z_iald S ok_201 rfl he dX10_steps_65 (fun he => ?_)
      obtain ⟨hy9, he⟩ := grd he
      refine z_idiv S hy9 dX10_steps_66 ?_
      exact z_iret S (Prod.mk.inj (Option.some.inj he)) dX10_steps_67
    · refine z_bipush (v := 20) S dX10_steps_38 (by decide) ?_
      refine z_aload_n S dX10_steps_40 rfl 0 rfl ?_
      refine z_getF (j := 201) S fo_RX10_7 1 rfl rfl ok_200 dX10_steps_41 ?_
      refine z_iconst (v := 5) S dX10_steps_44 (by decide) ?_
      refine z_iald S ok_201 rfl he dX10_steps_45 (fun he => ?_)
      refine z_iadd S dX10_steps_46 ?_
      refine z_iconst (v := 1) S dX10_steps_47 (by decide) ?_
      refine z_isub S dX10_steps_48 ?_
      refine z_aload_n S dX10_steps_49 rfl 0 rfl ?_
      refine z_getF (j := 201) S fo_RX10_7 1 rfl rfl ok_200 dX10_steps_50 ?_
      refine z_iconst (v := 5) S dX10_steps_53 (by decide) ?_
      refine z_iald S ok_201 rfl he dX10_steps_54 (fun he => ?_)
      obtain ⟨hy9, he⟩ := grd he
      refine z_idiv S hy9 dX10_steps_55 ?_
      refine z_goto (tgt := 67) S dX10_steps_56 (by decide) ?_
      exact z_iret S (Prod.mk.inj (Option.some.inj he)) dX10_steps_67
  · refine z_iconst (v := 0) S dX10_steps_31 (by decide) ?_
    exact z_iret S (Prod.mk.inj (Option.some.inj he)) dX10_steps_32
set_option maxRecDepth 100000 in
set_option maxHeartbeats 4000000 in
theorem p_X10_steps_J20 {X : Cx} {p : Program} {l : Launch} {e : Env} {s : State} {m : MethodId} {args : Array Value} {below : List Frame} {meth : Method} {c : Code} (S : SB X 1 p s m args meth c cX10_steps 2 (some .int) RX10) {M : Mm} {N : Mm} {r : Int32} {v1 : Int32}  (he : f_X10_steps_J20 M v1 = some (r, N)) : Z X 1 p l e rm_X10_steps s m args below meth c 0 0 (MQ below (QI X 1 r N s.heap.size) args s 0 0 (AA X 1 s.heap.size)) 2 M 20 [(0, .ref (X.2.2 200)), (1, .int v1)] [.ref (X.2.2 200)] := by
  unfold f_X10_steps_J20 at he
  refine z_iconst (v := 0) S dX10_steps_20 (by decide) ?_
  exact p_X10_steps_J21 S  he
set_option maxRecDepth 100000 in
set_option maxHeartbeats 4000000 in
theorem K_X10_steps {X : Cx} {l : Launch} {M : Mm} {a1 : Int32} {r : Int32} {N : Mm}  (he : f_X10_steps M a1 = some (r, N)) : KI X 1 l yX10_steps (wz yX10_steps cX10_steps 2 (some .int)) rm_X10_steps [.ref (X.2.2 200), .int a1] M r N := by
  intro sz
  refine K_of (Qc := (fun sz => QI X 1 r N sz)) (own := RX10) (lv0 := [(0, .ref (X.2.2 200)), (1, .int a1)]) (by decide +kernel) rfl (Nat.le_of_ble_eq_true rfl) rfl (fun p e s m args below meth c S => ?_) sz
  · unfold f_X10_steps at he
    refine z_aload_n S dX10_steps_0 rfl 0 rfl ?_
    refine z_iload_n S dX10_steps_1 rfl 1 rfl ?_
    refine z_iconst (v := (-1)) S dX10_steps_2 (by decide) ?_
    refine z_icmp_eq (tgt := 20) S he dX10_steps_3 (by decide) (fun he => ?_) (fun he => ?_)
    · exact p_X10_steps_J20 S  he
    · refine z_iload_n S dX10_steps_6 rfl 1 rfl ?_
      refine z_iconst (v := 0) S dX10_steps_7 (by decide) ?_
      refine z_bipush (v := 19) S dX10_steps_8 (by decide) ?_
      refine z_cSI (As := [.int a1, .int 0, .int 19]) S cs_RX10_66 (K_X10_isIn  rfl) ⟨rfl, rfl⟩ ⟨Nat.le_of_ble_eq_true rfl, Nat.le_of_ble_eq_true rfl⟩ ⟨Nat.le_refl _, Nat.le_refl _⟩ rfl rfl (Nat.le_of_ble_eq_true rfl) dX10_steps_10 ?_
      refine z_ifb_ne (tgt := 20) S he dX10_steps_13 (by decide) (fun he => ?_) (fun he => ?_)
      · exact p_X10_steps_J20 S  he
      · refine z_iconst (v := 1) S dX10_steps_16 (by decide) ?_
        refine z_goto (tgt := 21) S dX10_steps_17 (by decide) ?_
        exact p_X10_steps_J21 S  he
set_option maxRecDepth 100000 in
set_option maxHeartbeats 4000000 in
theorem K_X4_logRows {X : Cx} {l : Launch} {M : Mm} {a0 : Nat} {r : Int32} (h_a0 : OK 0 a0 4) (he : f_X4_logRows M a0 = r) : KI X 0 l yX4_logRows (wz yX4_logRows cX4_logRows 1 (some .int)) rm_X4_logRows [.ref (X.2.2 a0)] M r M := by
  intro sz
  refine K_of (Qc := (fun sz => QI X 0 r M sz)) (own := RX4) (lv0 := [(0, .ref (X.2.2 a0))]) (by decide +kernel) rfl (Nat.le_of_ble_eq_true rfl) rfl (fun p e s m args below meth c S => ?_) sz
  · unfold f_X4_logRows at he
    refine z_aload_n S dX4_logRows_0 rfl 0 rfl ?_
    refine z_getI S fo_RX4_46 rfl h_a0 dX4_logRows_1 ?_
    refine z_bipush (v := 60) S dX4_logRows_4 (by decide) ?_
    refine z_mmin S cm_RX4_76 (Nat.le_of_ble_eq_true rfl) (Nat.le_of_ble_eq_true rfl) ⟨Nat.le_refl _, Nat.le_refl _⟩ dX4_logRows_6 ?_
    exact z_iret S (⟨he, rfl⟩) dX4_logRows_9
set_option maxRecDepth 100000 in
set_option maxHeartbeats 4000000 in
theorem K_X4_logged {X : Cx} {l : Launch} {M : Mm} {a0 : Nat} {a1 : Int32} {a2 : Int32} {r : Int32} (h_a0 : OK 0 a0 4) (he : f_X4_logged M a0 a1 a2 = some r) : KI X 0 l yX4_logged (wz yX4_logged cX4_logged 3 (some .int)) rm_X4_logged [.ref (X.2.2 a0), .int a1, .int a2] M r M := by
  intro sz
  refine K_of (Qc := (fun sz => QI X 0 r M sz)) (own := RX4) (lv0 := [(0, .ref (X.2.2 a0)), (1, .int a1), (2, .int a2)]) (by decide +kernel) rfl (Nat.le_of_ble_eq_true rfl) rfl (fun p e s m args below meth c S => ?_) sz
  · unfold f_X4_logged at he
    refine z_aload_n S dX4_logged_0 rfl 0 rfl ?_
    refine z_getF (j := (a0 + 3)) S fo_RX4_18 3 rfl rfl h_a0 dX4_logged_1 ?_
    refine z_aload_n S dX4_logged_4 rfl 0 rfl ?_
    refine z_getI S fo_RX4_46 rfl h_a0 dX4_logged_5 ?_
    refine z_iconst (v := 1) S dX4_logged_8 (by decide) ?_
    refine z_isub S dX4_logged_9 ?_
    refine z_iload_n S dX4_logged_10 rfl 1 rfl ?_
    refine z_isub S dX4_logged_11 ?_
    refine z_bipush (v := 60) S dX4_logged_12 (by decide) ?_
    refine z_irem S (by decide) dX4_logged_14 ?_
    refine z_iconst (v := 5) S dX4_logged_15 (by decide) ?_
    refine z_imul S dX4_logged_16 ?_
    refine z_iload_n S dX4_logged_17 rfl 2 rfl ?_
    refine z_iadd S dX4_logged_18 ?_
    obtain ⟨r1, h9, he⟩ := bnd he
    refine z_cNI (As := [.ref (X.2.2 (a0 + 3)), .int ((((((gI M a0 9) - 1) - a1) - (((gI M a0 9) - 1) - a1) / 60 * 60) * 5) + a2)]) S cn_RX4_49 (K_X9_at (okf4_3 h_a0).1 h9) ⟨rfl, rfl⟩ ⟨Nat.le_of_ble_eq_true rfl, Nat.le_of_ble_eq_true rfl⟩ ⟨Nat.le_refl _, Nat.le_refl _⟩ rfl rfl (Nat.le_of_ble_eq_true rfl) dX4_logged_19 ?_
    exact z_iret S (⟨Option.some.inj he, rfl⟩) dX4_logged_22
