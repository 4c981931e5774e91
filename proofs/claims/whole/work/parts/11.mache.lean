set_option maxRecDepth 100000 in
set_option maxHeartbeats 4000000 in
theorem p_X10_hall_J43 {X : Cx} {p : Program} {l : Launch} {e : Env} {s : State} {m : MethodId} {args : Array Value} {below : List Frame} {meth : Method} {c : Code} (S : SB X 1 p s m args meth c cX10_hall 2 (some .int) RX10) {M : Mm} {N : Mm} {r : Int32} {t0 : Int32}  (he : f_X10_hall_J43 M t0 = some (r, N)) : Z X 1 p l e rm_X10_hall s m args below meth c 0 0 (MQ below (QI X 1 r N s.heap.size) args s 0 0 (AA X 1 s.heap.size)) 2 M 43 [(0, .ref (X.2.2 109))] [.int t0, .ref (X.2.2 109)] := by
  unfold f_X10_hall_J43 at he
  refine z_putIb S fo_RX10_63p rfl ok_109 rfl rfl he dX10_hall_43 (fun M5 he => ?_)
  refine z_aload_n S dX10_hall_46 rfl 0 rfl ?_
  refine z_getI S fo_RX10_63 rfl ok_109 dX10_hall_47 ?_
  refine z_if_le (tgt := 59) S he dX10_hall_50 (by decide) (fun he => ?_) (fun he => ?_)
  · refine z_aload_n S dX10_hall_59 rfl 0 rfl ?_
    refine z_getF (j := 110) S fo_RX10_7 1 rfl rfl ok_109 dX10_hall_60 ?_
    refine z_iconst (v := 0) S dX10_hall_63 (by decide) ?_
    refine z_dup2 S dX10_hall_64 rfl rfl ?_
    refine z_iald S ok_110 rfl he dX10_hall_65 (fun he => ?_)
    refine z_iconst (v := 1) S dX10_hall_66 (by decide) ?_
    refine z_iadd S dX10_hall_67 ?_
    refine z_iastb S ok_110 rfl he dX10_hall_68 (fun M6 he => ?_)
    refine z_aload_n S dX10_hall_69 rfl 0 rfl ?_
    refine z_iconst (v := 0) S dX10_hall_70 (by decide) ?_
    refine z_putIb S fo_RX10_184p rfl ok_109 rfl rfl he dX10_hall_71 (fun M7 he => ?_)
    refine z_aload_n S dX10_hall_74 rfl 0 rfl ?_
    refine z_getF (j := 110) S fo_RX10_7 1 rfl rfl ok_109 dX10_hall_75 ?_
    refine z_iconst (v := 0) S dX10_hall_78 (by decide) ?_
    refine z_iald S ok_110 rfl he dX10_hall_79 (fun he => ?_)
    exact z_iret S (Prod.mk.inj (Option.some.inj he)) dX10_hall_80
  · refine z_aload_n S dX10_hall_53 rfl 0 rfl ?_
    obtain ⟨M8, h9, he⟩ := bnd he
    refine z_cVV (As := []) S cv_RX10_181 (K_X10_comesBack  h9) ok_109 (by decide) (q := (RX10, TX10, 28)) rfl rfl ⟨rfl, rfl⟩ ⟨Nat.le_of_ble_eq_true rfl, Nat.le_of_ble_eq_true rfl⟩ ⟨Nat.le_refl _, Nat.le_refl _⟩ rfl rfl (Nat.le_of_ble_eq_true rfl) dX10_hall_54 ?_
    refine z_iconst (v := 0) S dX10_hall_57 (by decide) ?_
    exact z_iret S (Prod.mk.inj (Option.some.inj he)) dX10_hall_58
set_option maxRecDepth 100000 in
set_option maxHeartbeats 4000000 in
theorem K_X10_hall {X : Cx} {l : Launch} {M : Mm} {r : Int32} {N : Mm}  (he : f_X10_hall M  = some (r, N)) : KI X 1 l yX10_hall (wz yX10_hall cX10_hall 2 (some .int)) rm_X10_hall [.ref (X.2.2 109)] M r N := by
  intro sz
  refine K_of (Qc := (fun sz => QI X 1 r N sz)) (own := RX10) (lv0 := [(0, .ref (X.2.2 109))]) (by decide +kernel) rfl (Nat.le_of_ble_eq_true rfl) rfl (fun p e s m args below meth c S => ?_) sz
  · unfold f_X10_hall at he
    refine z_aload_n S dX10_hall_0 rfl 0 rfl ?_
    obtain ⟨M1, h9, he⟩ := bnd he
    refine z_cVV (As := []) S cv_RX10_171 (K_X10_putsAside  h9) ok_109 (by decide) (q := (RX10, TX10, 28)) rfl rfl ⟨rfl, rfl⟩ ⟨Nat.le_of_ble_eq_true rfl, Nat.le_of_ble_eq_true rfl⟩ ⟨Nat.le_refl _, Nat.le_refl _⟩ rfl rfl (Nat.le_of_ble_eq_true rfl) dX10_hall_1 ?_
    refine z_aload_n S dX10_hall_4 rfl 0 rfl ?_
    obtain ⟨M2, h9, he⟩ := bnd he
    refine z_cVV (As := []) S cv_RX10_174 (K_X10_begins  h9) ok_109 (by decide) (q := (RX10, TX10, 28)) rfl rfl ⟨rfl, rfl⟩ ⟨Nat.le_of_ble_eq_true rfl, Nat.le_of_ble_eq_true rfl⟩ ⟨Nat.le_refl _, Nat.le_refl _⟩ rfl rfl (Nat.le_of_ble_eq_true rfl) dX10_hall_5 ?_
    refine z_aload_n S dX10_hall_8 rfl 0 rfl ?_
    refine z_iconst (v := 0) S dX10_hall_9 (by decide) ?_
    obtain ⟨⟨r3, M4⟩, h9, he⟩ := bnd he
    dsimp only at he
    refine z_cVI (As := [.int 0]) S cv_RX10_177 (K_X10_read  h9) ok_109 (by decide) (q := (RX10, TX10, 28)) rfl rfl ⟨rfl, rfl⟩ ⟨Nat.le_of_ble_eq_true rfl, Nat.le_of_ble_eq_true rfl⟩ ⟨Nat.le_refl _, Nat.le_refl _⟩ rfl rfl (Nat.le_of_ble_eq_true rfl) dX10_hall_10 ?_
    refine z_istore_n (lv' := [(0, .ref (X.2.2 109))]) S [1] dX10_hall_13 rfl (by decide) rfl ?_
    refine z_aload_n S dX10_hall_14 rfl 0 rfl ?_
    refine z_aload_n S dX10_hall_15 rfl 0 rfl ?_
    refine z_getI S fo_RX10_25 rfl ok_109 dX10_hall_16 ?_
    refine z_iconst (v := (-1)) S dX10_hall_19 (by decide) ?_
    refine z_icmp_eq (tgt := 27) S he dX10_hall_20 (by decide) (fun he => ?_) (fun he => ?_)
    · refine z_aload_n S dX10_hall_27 rfl 0 rfl ?_
      refine z_getF (j := 110) S fo_RX10_7 1 rfl rfl ok_109 dX10_hall_28 ?_
      refine z_iconst (v := 0) S dX10_hall_31 (by decide) ?_
      refine z_iald S ok_110 rfl he dX10_hall_32 (fun he => ?_)
      refine z_bipush (v := 12) S dX10_hall_33 (by decide) ?_
      refine z_icmp_ne (tgt := 42) S he dX10_hall_35 (by decide) (fun he => ?_) (fun he => ?_)
      · refine z_iconst (v := 0) S dX10_hall_42 (by decide) ?_
        exact p_X10_hall_J43 S  he
      · refine z_iconst (v := 2) S dX10_hall_38 (by decide) ?_
        refine z_goto (tgt := 43) S dX10_hall_39 (by decide) ?_
        exact p_X10_hall_J43 S  he
    · refine z_iconst (v := 1) S dX10_hall_23 (by decide) ?_
      refine z_goto (tgt := 43) S dX10_hall_24 (by decide) ?_
      exact p_X10_hall_J43 S  he
set_option maxRecDepth 100000 in
set_option maxHeartbeats 4000000 in
theorem p_X10_hold_J28 {X : Cx} {p : Program} {l : Launch} {e : Env} {s : State} {m : MethodId} {args : Array Value} {below : List Frame} {meth : Method} {c : Code} (S : SB X 1 p s m args meth c cX10_hold 4 (some .int) RX10) {M : Mm} {N : Mm} {r : Int32} {v1 : Int32} {v2 : Int32} {t0 : Int32}  (he : f_X10_hold_J28 M v1 v2 t0 = some (r, N)) : Z X 1 p l e rm_X10_hold s m args below meth c 0 0 (MQ below (QI X 1 r N s.heap.size) args s 0 0 (AA X 1 s.heap.size)) 4 M 28 [(0, .ref (X.2.2 109)), (1, .int v1), (2, .int v2)] [.int t0, .ref (X.2.2 109)] := by
  unfold f_X10_hold_J28 at he
  refine z_putIb S fo_RX10_63p rfl ok_109 rfl rfl he dX10_hold_28 (fun M2 he => ?_)
  refine z_aload_n S dX10_hold_31 rfl 0 rfl ?_
  refine z_getI S fo_RX10_63 rfl ok_109 dX10_hold_32 ?_
  refine z_if_le (tgt := 40) S he dX10_hold_35 (by decide) (fun he => ?_) (fun he => ?_)
  · refine z_aload_n S dX10_hold_40 rfl 0 rfl ?_
    obtain ⟨M3, h9, he⟩ := bnd he
    refine z_cVV (As := []) S cv_RX10_306 (K_X10_remembers  h9) ok_109 (by decide) (q := (RX10, TX10, 28)) rfl rfl ⟨rfl, rfl⟩ ⟨Nat.le_of_ble_eq_true rfl, Nat.le_of_ble_eq_true rfl⟩ ⟨Nat.le_refl _, Nat.le_refl _⟩ rfl rfl (Nat.le_of_ble_eq_true rfl) dX10_hold_41 ?_
    refine z_aload_n S dX10_hold_44 rfl 0 rfl ?_
    refine z_iload_n S dX10_hold_45 rfl 1 rfl ?_
    refine z_iconst (v := 1) S dX10_hold_46 (by decide) ?_
    obtain ⟨r4, h9, he⟩ := bnd he
    refine z_cVI (As := [.int v1, .int 1]) S cv_RX10_70 (K_X10_of  h9) ok_109 (by decide) (q := (RX10, TX10, 28)) rfl rfl ⟨rfl, rfl⟩ ⟨Nat.le_of_ble_eq_true rfl, Nat.le_of_ble_eq_true rfl⟩ ⟨Nat.le_refl _, Nat.le_refl _⟩ rfl rfl (Nat.le_of_ble_eq_true rfl) dX10_hold_47 ?_
    refine z_istore_n (lv' := [(0, .ref (X.2.2 109)), (1, .int v1), (2, .int v2), (3, .int r4)]) S [1, 2, 3, 0] dX10_hold_50 rfl (by decide) rfl ?_
    refine z_aload_n S dX10_hold_51 rfl 0 rfl ?_
    refine z_getF (j := 110) S fo_RX10_7 1 rfl rfl ok_109 dX10_hold_52 ?_
    refine z_bipush (v := 12) S dX10_hold_55 (by decide) ?_
    refine z_iconst (v := 5) S dX10_hold_57 (by decide) ?_
    refine z_iload_n S dX10_hold_58 rfl 1 rfl ?_
    refine z_imul S dX10_hold_59 ?_
    refine z_iadd S dX10_hold_60 ?_
    refine z_iconst (v := 1) S dX10_hold_61 (by decide) ?_
    refine z_iadd S dX10_hold_62 ?_
    refine z_iload_n S dX10_hold_63 rfl 2 rfl ?_
    refine z_iastb S ok_110 rfl he dX10_hold_64 (fun M5 he => ?_)
    refine z_iload_n S dX10_hold_65 rfl 3 rfl ?_
    exact z_iret S (Prod.mk.inj (Option.some.inj he)) dX10_hold_66
  · refine z_iconst (v := 0) S dX10_hold_38 (by decide) ?_
    exact z_iret S (Prod.mk.inj (Option.some.inj he)) dX10_hold_39
set_option maxRecDepth 100000 in
set_option maxHeartbeats 4000000 in
theorem K_X10_hold {X : Cx} {l : Launch} {M : Mm} {a1 : Int32} {a2 : Int32} {r : Int32} {N : Mm}  (he : f_X10_hold M a1 a2 = some (r, N)) : KI X 1 l yX10_hold (wz yX10_hold cX10_hold 4 (some .int)) rm_X10_hold [.ref (X.2.2 109), .int a1, .int a2] M r N := by
  intro sz
  refine K_of (Qc := (fun sz => QI X 1 r N sz)) (own := RX10) (lv0 := [(0, .ref (X.2.2 109)), (1, .int a1), (2, .int a2)]) (by decide +kernel) rfl (Nat.le_of_ble_eq_true rfl) rfl (fun p e s m args below meth c S => ?_) sz
  · unfold f_X10_hold at he
    refine z_aload_n S dX10_hold_0 rfl 0 rfl ?_
    refine z_aload_n S dX10_hold_1 rfl 0 rfl ?_
    refine z_iload_n S dX10_hold_2 rfl 1 rfl ?_
    obtain ⟨r1, h9, he⟩ := bnd he
    refine z_cVI (As := [.int a1]) S cv_RX10_285 (K_X10_isThing  h9) ok_109 (by decide) (q := (RX10, TX10, 28)) rfl rfl ⟨rfl, rfl⟩ ⟨Nat.le_of_ble_eq_true rfl, Nat.le_of_ble_eq_true rfl⟩ ⟨Nat.le_refl _, Nat.le_refl _⟩ rfl rfl (Nat.le_of_ble_eq_true rfl) dX10_hold_3 ?_
    refine z_ifb_ne (tgt := 13) S he dX10_hold_6 (by decide) (fun he => ?_) (fun he => ?_)
    · refine z_iload_n S dX10_hold_13 rfl 2 rfl ?_
      refine z_iconst (v := 0) S dX10_hold_14 (by decide) ?_
      refine z_bipush (v := 99) S dX10_hold_15 (by decide) ?_
      refine z_cSI (As := [.int a2, .int 0, .int 99]) S cs_RX10_66 (K_X10_isIn  rfl) ⟨rfl, rfl⟩ ⟨Nat.le_of_ble_eq_true rfl, Nat.le_of_ble_eq_true rfl⟩ ⟨Nat.le_refl _, Nat.le_refl _⟩ rfl rfl (Nat.le_of_ble_eq_true rfl) dX10_hold_17 ?_
      refine z_ifb_ne (tgt := 27) S he dX10_hold_20 (by decide) (fun he => ?_) (fun he => ?_)
      · refine z_iconst (v := 0) S dX10_hold_27 (by decide) ?_
        exact p_X10_hold_J28 S  he
      · refine z_iconst (v := 2) S dX10_hold_23 (by decide) ?_
        refine z_goto (tgt := 28) S dX10_hold_24 (by decide) ?_
        exact p_X10_hold_J28 S  he
    · refine z_iconst (v := 1) S dX10_hold_9 (by decide) ?_
      refine z_goto (tgt := 28) S dX10_hold_10 (by decide) ?_
      exact p_X10_hold_J28 S  he
set_option maxRecDepth 100000 in
set_option maxHeartbeats 4000000 in
theorem p_X10_image_L7 {X : Cx} {p : Program} {l : Launch} {e : Env} {s : State} {m : MethodId} {args : Array Value} {below : List Frame} {meth : Method} {c : Code} (S : SB X 1 p s m args meth c cX10_image 2 none RX10) {M : Mm} {N : Mm} {v1 : Int32} {x : (Mm × Int32) ⊕ Mm}  (he : f_X10_image_L7 M v1 = some x) (hc : ∀ b, x = .inl b → Z X 1 p l e rm_X10_image s m args below meth c 0 0 (MQ below (QV X 1 N s.heap.size) args s 0 0 (AA X 1 s.heap.size)) 2 b.1 7 [(0, .ref (X.2.2 109)), (1, .int b.2)] []) (hx : ∀ b, x = .inr b → Z X 1 p l e rm_X10_image s m args below meth c 0 0 (MQ below (QV X 1 N s.heap.size) args s 0 0 (AA X 1 s.heap.size)) 2 b 32 [(0, .ref (X.2.2 109))] []) : Z X 1 p l e rm_X10_image s m args below meth c 0 0 (MQ below (QV X 1 N s.heap.size) args s 0 0 (AA X 1 s.heap.size)) 2 M 7 [(0, .ref (X.2.2 109)), (1, .int v1)] [] := by
  unfold f_X10_image_L7 at he
  refine z_iload_n S dX10_image_7 rfl 1 rfl ?_
  refine z_sipush (v := 807) S dX10_image_8 (by decide) ?_
  refine z_icmp_ge (tgt := 32) S he dX10_image_11 (by decide) (fun he => ?_) (fun he => ?_)
  · refine z_lv (ks := [0]) rfl ?_
    exact hx _ (Option.some.inj he).symm
  · refine z_aload_n S dX10_image_14 rfl 0 rfl ?_
    refine z_getF (j := 111) S fo_RX10_13 2 rfl rfl ok_109 dX10_image_15 ?_
    refine z_iload_n S dX10_image_18 rfl 1 rfl ?_
    refine z_aload_n S dX10_image_19 rfl 0 rfl ?_
    refine z_getF (j := 110) S fo_RX10_7 1 rfl rfl ok_109 dX10_image_20 ?_
    refine z_iload_n S dX10_image_23 rfl 1 rfl ?_
    refine z_iald S ok_110 rfl he dX10_image_24 (fun he => ?_)
    refine z_iastb S ok_111 rfl he dX10_image_25 (fun M2 he => ?_)
    refine z_iinc (v := (v1 + 1)) (lv' := [(0, .ref (X.2.2 109)), (1, .int (v1 + 1))]) S [1, 0] 1 dX10_image_26 rfl (by rfl) (by decide) rfl ?_
    refine z_goto (tgt := 7) S dX10_image_29 (by decide) ?_
    refine z_lv (ks := [0, 1]) rfl ?_
    exact hc _ (Option.some.inj he).symm
set_option maxRecDepth 100000 in
set_option maxHeartbeats 4000000 in
theorem K_X10_image {X : Cx} {l : Launch} {M : Mm} {N : Mm}  (he : f_X10_image M  = some N) : KV X 1 l yX10_image (wz yX10_image cX10_image 2 none) rm_X10_image [.ref (X.2.2 109)] M N := by
  intro sz
  refine K_of (Qc := (fun sz => QV X 1 N sz)) (own := RX10) (lv0 := [(0, .ref (X.2.2 109))]) (by decide +kernel) rfl (Nat.le_of_ble_eq_true rfl) rfl (fun p e s m args below meth c S => ?_) sz
  · unfold f_X10_image at he
    refine z_aload_n S dX10_image_0 rfl 0 rfl ?_
    refine z_iconst (v := 0) S dX10_image_1 (by decide) ?_
    refine z_putIb S fo_RX10_63p rfl ok_109 rfl rfl he dX10_image_2 (fun M1 he => ?_)
    refine z_iconst (v := 0) S dX10_image_5 (by decide) ?_
    refine z_istore_n (lv' := [(0, .ref (X.2.2 109)), (1, .int 0)]) S [1, 0] dX10_image_6 rfl (by decide) rfl ?_
    obtain ⟨e_3, hl, he⟩ := bnd he
    have hX : Z X 1 p l e rm_X10_image s m args below meth c 0 0 (MQ below (QV X 1 N s.heap.size) args s 0 0 (AA X 1 s.heap.size)) 2 e_3 32 [(0, .ref (X.2.2 109))] [] := by
      refine z_aload_n S dX10_image_32 rfl 0 rfl ?_
      refine z_iconst (v := 1) S dX10_image_33 (by decide) ?_
      refine z_putIb S fo_RX10_351p rfl ok_109 rfl rfl he dX10_image_34 (fun M4 he => ?_)
      exact z_vret S (Option.some.inj he) dX10_image_37
    have hZ9 := loopZ (f := (fun a_3 => f_X10_image_L7 a_3.1 a_3.2)) (Zh := (fun a_3 => Z X 1 p l e rm_X10_image s m args below meth c 0 0 (MQ below (QV X 1 N s.heap.size) args s 0 0 (AA X 1 s.heap.size)) 2 a_3.1 7 [(0, .ref (X.2.2 109)), (1, .int a_3.2)] [])) (fun a_3 x hb hc hr => p_X10_image_L7 S  hb hc (fun b hxe => by rw [hr b hxe]; exact hX)) FU (M1, 0) hl
    exact hZ9
set_option maxRecDepth 100000 in
set_option maxHeartbeats 4000000 in
theorem p_X10_last_L38 {X : Cx} {p : Program} {l : Launch} {e : Env} {s : State} {m : MethodId} {args : Array Value} {below : List Frame} {meth : Method} {c : Code} (S : SB X 1 p s m args meth c cX10_last 7 (some .int) RX10) {M : Mm} {N : Mm} {r : Int32} {v1 : Int32} {v2 : Int32} {v3 : Int32} {v4 : Int32} {v5 : Int32} {x : (Mm × Int32 × Int32 × Int32) ⊕ (Mm × Int32 × Int32)}  (he : f_X10_last_L38 M v1 v2 v3 v4 v5 = some x) (hc : ∀ b, x = .inl b → Z X 1 p l e rm_X10_last s m args below meth c 0 0 (MQ below (QI X 1 r N s.heap.size) args s 0 0 (AA X 1 s.heap.size)) 7 b.1 38 [(0, .ref (X.2.2 109)), (1, .int v1), (2, .int v2), (3, .int b.2.1), (4, .int b.2.2.1), (5, .int b.2.2.2)] []) (hx : ∀ b, x = .inr b → Z X 1 p l e rm_X10_last s m args below meth c 0 0 (MQ below (QI X 1 r N s.heap.size) args s 0 0 (AA X 1 s.heap.size)) 7 b.1 82 [(0, .ref (X.2.2 109)), (2, .int v2), (3, .int b.2.1), (4, .int b.2.2)] []) : Z X 1 p l e rm_X10_last s m args below meth c 0 0 (MQ below (QI X 1 r N s.heap.size) args s 0 0 (AA X 1 s.heap.size)) 7 M 38 [(0, .ref (X.2.2 109)), (1, .int v1), (2, .int v2), (3, .int v3), (4, .int v4), (5, .int v5)] [] := by
  unfold f_X10_last_L38 at he
  refine z_iload S dX10_last_38 5 rfl ?_
  refine z_bipush (v := 30) S dX10_last_40 (by decide) ?_
  refine z_icmp_gt (tgt := 82) S he dX10_last_42 (by decide) (fun he => ?_) (fun he => ?_)
  · refine z_lv (ks := [0, 2, 3, 4]) rfl ?_
    exact hx _ (Option.some.inj he).symm
  · refine z_aload_n S dX10_last_45 rfl 0 rfl ?_
    refine z_iconst (v := 0) S dX10_last_46 (by decide) ?_
    obtain ⟨⟨r4, M5⟩, h9, he⟩ := bnd he
    dsimp only at he
    refine z_cVI (As := [.int 0]) S cv_RX10_282 (K_X10_goesBy  h9) ok_109 (by decide) (q := (RX10, TX10, 28)) rfl rfl ⟨rfl, rfl⟩ ⟨Nat.le_of_ble_eq_true rfl, Nat.le_of_ble_eq_true rfl⟩ ⟨Nat.le_refl _, Nat.le_refl _⟩ rfl rfl (Nat.le_of_ble_eq_true rfl) dX10_last_47 ?_
    refine z_istore (lv' := [(0, .ref (X.2.2 109)), (1, .int v1), (2, .int v2), (3, .int v3), (4, .int v4), (5, .int v5)]) S [1, 2, 3, 4, 5, 6] dX10_last_50 (by decide) rfl ?_
    refine z_aload_n S dX10_last_52 rfl 0 rfl ?_
    refine z_getF (j := 117) S fo_RX10_35 8 rfl rfl ok_109 dX10_last_53 ?_
    refine z_iload_n S dX10_last_56 rfl 1 rfl ?_
    refine z_iald S ok_117 rfl he dX10_last_57 (fun he => ?_)
    refine z_iconst (v := (-1)) S dX10_last_58 (by decide) ?_
    refine z_icmp_ne (tgt := 68) S he dX10_last_59 (by decide) (fun he => ?_) (fun he => ?_)
    · refine z_iload_n S dX10_last_68 rfl 3 rfl ?_
      refine z_iconst (v := (-1)) S dX10_last_69 (by decide) ?_
      refine z_icmp_ne (tgt := 76) S he dX10_last_70 (by decide) (fun he => ?_) (fun he => ?_)
      · refine z_iinc (v := (v5 + 1)) (lv' := [(0, .ref (X.2.2 109)), (1, .int v1), (2, .int v2), (3, .int v3), (4, .int v4), (5, .int (v5 + 1))]) S [1, 2, 3, 4, 5, 0] 5 dX10_last_76 rfl (by rfl) (by decide) rfl ?_
        refine z_goto (tgt := 38) S dX10_last_79 (by decide) ?_
        refine z_lv (ks := [0, 1, 2, 3, 4, 5]) rfl ?_
        exact hc _ (Option.some.inj he).symm
      · refine z_iload S dX10_last_73 5 rfl ?_
        refine z_istore_n (lv' := [(0, .ref (X.2.2 109)), (1, .int v1), (2, .int v2), (3, .int v5), (4, .int v4), (5, .int v5)]) S [1, 2, 3, 0, 4, 5] dX10_last_75 rfl (by decide) rfl ?_
        refine z_iinc (v := (v5 + 1)) (lv' := [(0, .ref (X.2.2 109)), (1, .int v1), (2, .int v2), (3, .int v5), (4, .int v4), (5, .int (v5 + 1))]) S [1, 2, 3, 4, 5, 0] 5 dX10_last_76 rfl (by rfl) (by decide) rfl ?_
        refine z_goto (tgt := 38) S dX10_last_79 (by decide) ?_
        refine z_lv (ks := [0, 1, 2, 3, 4, 5]) rfl ?_
        exact hc _ (Option.some.inj he).symm
    · refine z_iinc (v := (v4 + 1)) (lv' := [(0, .ref (X.2.2 109)), (1, .int v1), (2, .int v2), (3, .int v3), (4, .int (v4 + 1)), (5, .int v5)]) S [1, 2, 3, 4, 0, 5] 4 dX10_last_62 rfl (by rfl) (by decide) rfl ?_
      refine z_goto (tgt := 76) S dX10_last_65 (by decide) ?_
      refine z_iinc (v := (v5 + 1)) (lv' := [(0, .ref (X.2.2 109)), (1, .int v1), (2, .int v2), (3, .int v3), (4, .int (v4 + 1)), (5, .int (v5 + 1))]) S [1, 2, 3, 4, 5, 0] 5 dX10_last_76 rfl (by rfl) (by decide) rfl ?_
      refine z_goto (tgt := 38) S dX10_last_79 (by decide) ?_
      refine z_lv (ks := [0, 1, 2, 3, 4, 5]) rfl ?_
      exact hc _ (Option.some.inj he).symm
set_option maxRecDepth 100000 in
set_option maxHeartbeats 4000000 in
theorem p_X10_last_J14 {X : Cx} {p : Program} {l : Launch} {e : Env} {s : State} {m : MethodId} {args : Array Value} {below : List Frame} {meth : Method} {c : Code} (S : SB X 1 p s m args meth c cX10_last 7 (some .int) RX10) {M : Mm} {N : Mm} {r : Int32} {v1 : Int32} {v2 : Int32} {t0 : Int32}  (he : f_X10_last_J14 M v1 v2 t0 = some (r, N)) : Z X 1 p l e rm_X10_last s m args below meth c 0 0 (MQ below (QI X 1 r N s.heap.size) args s 0 0 (AA X 1 s.heap.size)) 7 M 14 [(0, .ref (X.2.2 109)), (1, .int v1), (2, .int v2)] [.int t0, .ref (X.2.2 109)] := by
  unfold f_X10_last_J14 at he
  refine z_putIb S fo_RX10_63p rfl ok_109 rfl rfl he dX10_last_14 (fun M2 he => ?_)
  refine z_aload_n S dX10_last_17 rfl 0 rfl ?_
  refine z_getI S fo_RX10_63 rfl ok_109 dX10_last_18 ?_
  refine z_if_le (tgt := 26) S he dX10_last_21 (by decide) (fun he => ?_) (fun he => ?_)
  · refine z_aload_n S dX10_last_26 rfl 0 rfl ?_
    obtain ⟨M3, h9, he⟩ := bnd he
    refine z_cVV (As := []) S cv_RX10_171 (K_X10_putsAside  h9) ok_109 (by decide) (q := (RX10, TX10, 28)) rfl rfl ⟨rfl, rfl⟩ ⟨Nat.le_of_ble_eq_true rfl, Nat.le_of_ble_eq_true rfl⟩ ⟨Nat.le_refl _, Nat.le_refl _⟩ rfl rfl (Nat.le_of_ble_eq_true rfl) dX10_last_27 ?_
    refine z_iconst (v := (-1)) S dX10_last_30 (by decide) ?_
    refine z_istore_n (lv' := [(0, .ref (X.2.2 109)), (1, .int v1), (2, .int v2), (3, .int (-1))]) S [1, 2, 3, 0] dX10_last_31 rfl (by decide) rfl ?_
    refine z_iconst (v := 0) S dX10_last_32 (by decide) ?_
    refine z_istore (lv' := [(0, .ref (X.2.2 109)), (1, .int v1), (2, .int v2), (3, .int (-1)), (4, .int 0)]) S [1, 2, 3, 4, 0] dX10_last_33 (by decide) rfl ?_
    refine z_iconst (v := 1) S dX10_last_35 (by decide) ?_
    refine z_istore (lv' := [(0, .ref (X.2.2 109)), (1, .int v1), (2, .int v2), (3, .int (-1)), (4, .int 0), (5, .int 1)]) S [1, 2, 3, 4, 5, 0] dX10_last_36 (by decide) rfl ?_
    obtain ⟨e_6, hl, he⟩ := bnd he
    have hX : Z X 1 p l e rm_X10_last s m args below meth c 0 0 (MQ below (QI X 1 r N s.heap.size) args s 0 0 (AA X 1 s.heap.size)) 7 e_6.1 82 [(0, .ref (X.2.2 109)), (2, .int v2), (3, .int e_6.2.1), (4, .int e_6.2.2)] [] := by
      refine z_aload_n S dX10_last_82 rfl 0 rfl ?_
      obtain ⟨M7, h9, he⟩ := bnd he
      refine z_cVV (As := []) S cv_RX10_181 (K_X10_comesBack  h9) ok_109 (by decide) (q := (RX10, TX10, 28)) rfl rfl ⟨rfl, rfl⟩ ⟨Nat.le_of_ble_eq_true rfl, Nat.le_of_ble_eq_true rfl⟩ ⟨Nat.le_refl _, Nat.le_refl _⟩ rfl rfl (Nat.le_of_ble_eq_true rfl) dX10_last_83 ?_
      refine z_iload_n S dX10_last_86 rfl 1 rfl ?_
      refine z_if_eq (tgt := 95) S he dX10_last_87 (by decide) (fun he => ?_) (fun he => ?_)
      · refine z_iload_n S dX10_last_95 rfl 2 rfl ?_
        exact z_iret S (Prod.mk.inj (Option.some.inj he)) dX10_last_96
      · refine z_iload S dX10_last_90 3 rfl ?_
        refine z_goto (tgt := 96) S dX10_last_92 (by decide) ?_
        exact z_iret S (Prod.mk.inj (Option.some.inj he)) dX10_last_96
    have hZ9 := loopZ (f := (fun a_6 => f_X10_last_L38 a_6.1 v1 v2 a_6.2.1 a_6.2.2.1 a_6.2.2.2)) (Zh := (fun a_6 => Z X 1 p l e rm_X10_last s m args below meth c 0 0 (MQ below (QI X 1 r N s.heap.size) args s 0 0 (AA X 1 s.heap.size)) 7 a_6.1 38 [(0, .ref (X.2.2 109)), (1, .int v1), (2, .int v2), (3, .int a_6.2.1), (4, .int a_6.2.2.1), (5, .int a_6.2.2.2)] [])) (fun a_6 x hb hc hr => p_X10_last_L38 S  hb hc (fun b hxe => by rw [hr b hxe]; exact hX)) FU (M3, (-1), 0, 1) hl
    exact hZ9
  · refine z_iconst (v := 0) S dX10_last_24 (by decide) ?_
    exact z_iret S (Prod.mk.inj (Option.some.inj he)) dX10_last_25
set_option maxRecDepth 100000 in
set_option maxHeartbeats 4000000 in
theorem K_X10_last {X : Cx} {l : Launch} {M : Mm} {a1 : Int32} {a2 : Int32} {r : Int32} {N : Mm}  (he : f_X10_last M a1 a2 = some (r, N)) : KI X 1 l yX10_last (wz yX10_last cX10_last 7 (some .int)) rm_X10_last [.ref (X.2.2 109), .int a1, .int a2] M r N := by
  intro sz
  refine K_of (Qc := (fun sz => QI X 1 r N sz)) (own := RX10) (lv0 := [(0, .ref (X.2.2 109)), (1, .int a1), (2, .int a2)]) (by decide +kernel) rfl (Nat.le_of_ble_eq_true rfl) rfl (fun p e s m args below meth c S => ?_) sz
  · unfold f_X10_last at he
    refine z_aload_n S dX10_last_0 rfl 0 rfl ?_
    refine z_aload_n S dX10_last_1 rfl 0 rfl ?_
    refine z_iload_n S dX10_last_2 rfl 1 rfl ?_
    obtain ⟨r1, h9, he⟩ := bnd he
    refine z_cVI (As := [.int a1]) S cv_RX10_300 (K_X10_isVisitor  h9) ok_109 (by decide) (q := (RX10, TX10, 28)) rfl rfl ⟨rfl, rfl⟩ ⟨Nat.le_of_ble_eq_true rfl, Nat.le_of_ble_eq_true rfl⟩ ⟨Nat.le_refl _, Nat.le_refl _⟩ rfl rfl (Nat.le_of_ble_eq_true rfl) dX10_last_3 ?_
    refine z_ifb_ne (tgt := 13) S he dX10_last_6 (by decide) (fun he => ?_) (fun he => ?_)
    · refine z_iconst (v := 0) S dX10_last_13 (by decide) ?_
      exact p_X10_last_J14 S  he
    · refine z_iconst (v := 1) S dX10_last_9 (by decide) ?_
      refine z_goto (tgt := 14) S dX10_last_10 (by decide) ?_
      exact p_X10_last_J14 S  he
set_option maxRecDepth 100000 in
set_option maxHeartbeats 4000000 in
theorem p_X10_law_L55 {X : Cx} {p : Program} {l : Launch} {e : Env} {s : State} {m : MethodId} {args : Array Value} {below : List Frame} {meth : Method} {c : Code} (S : SB X 1 p s m args meth c cX10_law 3 (some .int) RX10) {M : Mm} {N : Mm} {r : Int32} {v1 : Int32} {v2 : Int32} {x : (Mm × Int32) ⊕ Mm}  (he : f_X10_law_L55 M v1 v2 = some x) (hc : ∀ b, x = .inl b → Z X 1 p l e rm_X10_law s m args below meth c 0 0 (MQ below (QI X 1 r N s.heap.size) args s 0 0 (AA X 1 s.heap.size)) 3 b.1 55 [(0, .ref (X.2.2 109)), (1, .int v1), (2, .int b.2)] []) (hx : ∀ b, x = .inr b → Z X 1 p l e rm_X10_law s m args below meth c 0 0 (MQ below (QI X 1 r N s.heap.size) args s 0 0 (AA X 1 s.heap.size)) 3 b 85 [(0, .ref (X.2.2 109)), (1, .int v1)] []) : Z X 1 p l e rm_X10_law s m args below meth c 0 0 (MQ below (QI X 1 r N s.heap.size) args s 0 0 (AA X 1 s.heap.size)) 3 M 55 [(0, .ref (X.2.2 109)), (1, .int v1), (2, .int v2)] [] := by
  unfold f_X10_law_L55 at he
  refine z_iload_n S dX10_law_55 rfl 2 rfl ?_
  refine z_aload_n S dX10_law_56 rfl 0 rfl ?_
  refine z_getI S fo_RX10_83 rfl ok_109 dX10_law_57 ?_
  refine z_icmp_ge (tgt := 85) S he dX10_law_60 (by decide) (fun he => ?_) (fun he => ?_)
  · refine z_lv (ks := [0, 1]) rfl ?_
    exact hx _ (Option.some.inj he).symm
  · refine z_aload_n S dX10_law_63 rfl 0 rfl ?_
    refine z_getF (j := 110) S fo_RX10_7 1 rfl rfl ok_109 dX10_law_64 ?_
    refine z_sipush (v := 407) S dX10_law_67 (by decide) ?_
    refine z_iload_n S dX10_law_70 rfl 2 rfl ?_
    refine z_iadd S dX10_law_71 ?_
    refine z_aload_n S dX10_law_72 rfl 0 rfl ?_
    refine z_getF (j := 114) S fo_RX10_22 5 rfl rfl ok_109 dX10_law_73 ?_
    refine z_iload_n S dX10_law_76 rfl 2 rfl ?_
    refine z_iald S ok_114 rfl he dX10_law_77 (fun he => ?_)
    refine z_iastb S ok_110 rfl he dX10_law_78 (fun M7 he => ?_)
    refine z_iinc (v := (v2 + 1)) (lv' := [(0, .ref (X.2.2 109)), (1, .int v1), (2, .int (v2 + 1))]) S [1, 2, 0] 2 dX10_law_79 rfl (by rfl) (by decide) rfl ?_
    refine z_goto (tgt := 55) S dX10_law_82 (by decide) ?_
    refine z_lv (ks := [0, 1, 2]) rfl ?_
    exact hc _ (Option.some.inj he).symm
set_option maxRecDepth 100000 in
set_option maxHeartbeats 4000000 in
theorem p_X10_law_J24 {X : Cx} {p : Program} {l : Launch} {e : Env} {s : State} {m : MethodId} {args : Array Value} {below : List Frame} {meth : Method} {c : Code} (S : SB X 1 p s m args meth c cX10_law 3 (some .int) RX10) {M : Mm} {N : Mm} {r : Int32} {v1 : Int32} {t0 : Int32}  (he : f_X10_law_J24 M v1 t0 = some (r, N)) : Z X 1 p l e rm_X10_law s m args below meth c 0 0 (MQ below (QI X 1 r N s.heap.size) args s 0 0 (AA X 1 s.heap.size)) 3 M 24 [(0, .ref (X.2.2 109)), (1, .int v1)] [.int t0, .ref (X.2.2 109)] := by
  unfold f_X10_law_J24 at he
  refine z_putIb S fo_RX10_63p rfl ok_109 rfl rfl he dX10_law_24 (fun M4 he => ?_)
  refine z_aload_n S dX10_law_27 rfl 0 rfl ?_
  refine z_getI S fo_RX10_63 rfl ok_109 dX10_law_28 ?_
  refine z_if_le (tgt := 36) S he dX10_law_31 (by decide) (fun he => ?_) (fun he => ?_)
  · refine z_aload_n S dX10_law_36 rfl 0 rfl ?_
    refine z_getF (j := 110) S fo_RX10_7 1 rfl rfl ok_109 dX10_law_37 ?_
    refine z_iconst (v := 1) S dX10_law_40 (by decide) ?_
    refine z_iload_n S dX10_law_41 rfl 1 rfl ?_
    refine z_iastb S ok_110 rfl he dX10_law_42 (fun M5 he => ?_)
    refine z_aload_n S dX10_law_43 rfl 0 rfl ?_
    refine z_getF (j := 110) S fo_RX10_7 1 rfl rfl ok_109 dX10_law_44 ?_
    refine z_iconst (v := 2) S dX10_law_47 (by decide) ?_
    refine z_aload_n S dX10_law_48 rfl 0 rfl ?_
    refine z_getI S fo_RX10_83 rfl ok_109 dX10_law_49 ?_
    refine z_iastb S ok_110 rfl he dX10_law_52 (fun M6 he => ?_)
    refine z_iconst (v := 0) S dX10_law_53 (by decide) ?_
    refine z_istore_n (lv' := [(0, .ref (X.2.2 109)), (1, .int v1), (2, .int 0)]) S [1, 2, 0] dX10_law_54 rfl (by decide) rfl ?_
    obtain ⟨e_8, hl, he⟩ := bnd he
    have hX : Z X 1 p l e rm_X10_law s m args below meth c 0 0 (MQ below (QI X 1 r N s.heap.size) args s 0 0 (AA X 1 s.heap.size)) 3 e_8 85 [(0, .ref (X.2.2 109)), (1, .int v1)] [] := by
      refine z_aload_n S dX10_law_85 rfl 0 rfl ?_
      refine z_iconst (v := 0) S dX10_law_86 (by decide) ?_
      refine z_putIb S fo_RX10_184p rfl ok_109 rfl rfl he dX10_law_87 (fun M9 he => ?_)
      refine z_iload_n S dX10_law_90 rfl 1 rfl ?_
      exact z_iret S (Prod.mk.inj (Option.some.inj he)) dX10_law_91
    have hZ9 := loopZ (f := (fun a_8 => f_X10_law_L55 a_8.1 v1 a_8.2)) (Zh := (fun a_8 => Z X 1 p l e rm_X10_law s m args below meth c 0 0 (MQ below (QI X 1 r N s.heap.size) args s 0 0 (AA X 1 s.heap.size)) 3 a_8.1 55 [(0, .ref (X.2.2 109)), (1, .int v1), (2, .int a_8.2)] [])) (fun a_8 x hb hc hr => p_X10_law_L55 S  hb hc (fun b hxe => by rw [hr b hxe]; exact hX)) FU (M6, 0) hl
    exact hZ9
  · refine z_iconst (v := 0) S dX10_law_34 (by decide) ?_
    exact z_iret S (Prod.mk.inj (Option.some.inj he)) dX10_law_35
set_option maxRecDepth 100000 in
set_option maxHeartbeats 4000000 in
theorem K_X10_law {X : Cx} {l : Launch} {M : Mm} {r : Int32} {N : Mm}  (he : f_X10_law M  = some (r, N)) : KI X 1 l yX10_law (wz yX10_law cX10_law 3 (some .int)) rm_X10_law [.ref (X.2.2 109)] M r N := by
  intro sz
  refine K_of (Qc := (fun sz => QI X 1 r N sz)) (own := RX10) (lv0 := [(0, .ref (X.2.2 109))]) (by decide +kernel) rfl (Nat.le_of_ble_eq_true rfl) rfl (fun p e s m args below meth c S => ?_) sz
  · unfold f_X10_law at he
    refine z_aload_n S dX10_law_0 rfl 0 rfl ?_
    obtain ⟨M1, h9, he⟩ := bnd he
    refine z_cVV (As := []) S cv_RX10_174 (K_X10_begins  h9) ok_109 (by decide) (q := (RX10, TX10, 28)) rfl rfl ⟨rfl, rfl⟩ ⟨Nat.le_of_ble_eq_true rfl, Nat.le_of_ble_eq_true rfl⟩ ⟨Nat.le_refl _, Nat.le_refl _⟩ rfl rfl (Nat.le_of_ble_eq_true rfl) dX10_law_1 ?_
    refine z_aload_n S dX10_law_4 rfl 0 rfl ?_
    refine z_iconst (v := 1) S dX10_law_5 (by decide) ?_
    obtain ⟨⟨r2, M3⟩, h9, he⟩ := bnd he
    dsimp only at he
    refine z_cVI (As := [.int 1]) S cv_RX10_177 (K_X10_read  h9) ok_109 (by decide) (q := (RX10, TX10, 28)) rfl rfl ⟨rfl, rfl⟩ ⟨Nat.le_of_ble_eq_true rfl, Nat.le_of_ble_eq_true rfl⟩ ⟨Nat.le_refl _, Nat.le_refl _⟩ rfl rfl (Nat.le_of_ble_eq_true rfl) dX10_law_6 ?_
    refine z_istore_n (lv' := [(0, .ref (X.2.2 109)), (1, .int r2)]) S [1, 0] dX10_law_9 rfl (by decide) rfl ?_
    refine z_aload_n S dX10_law_10 rfl 0 rfl ?_
    refine z_aload_n S dX10_law_11 rfl 0 rfl ?_
    refine z_getI S fo_RX10_25 rfl ok_109 dX10_law_12 ?_
    refine z_iconst (v := (-1)) S dX10_law_15 (by decide) ?_
    refine z_icmp_eq (tgt := 23) S he dX10_law_16 (by decide) (fun he => ?_) (fun he => ?_)
    · refine z_iconst (v := 0) S dX10_law_23 (by decide) ?_
      exact p_X10_law_J24 S  he
    · refine z_iconst (v := 1) S dX10_law_19 (by decide) ?_
      refine z_goto (tgt := 24) S dX10_law_20 (by decide) ?_
      exact p_X10_law_J24 S  he
set_option maxRecDepth 100000 in
set_option maxHeartbeats 4000000 in
theorem K_X10_logged {X : Cx} {l : Launch} {M : Mm} {a1 : Int32} {a2 : Int32} {r : Int32}  (he : f_X10_logged M a1 a2 = some r) : KI X 1 l yX10_logged (wz yX10_logged cX10_logged 3 (some .int)) rm_X10_logged [.ref (X.2.2 109), .int a1, .int a2] M r M := by
  intro sz
  refine K_of (Qc := (fun sz => QI X 1 r M sz)) (own := RX10) (lv0 := [(0, .ref (X.2.2 109)), (1, .int a1), (2, .int a2)]) (by decide +kernel) rfl (Nat.le_of_ble_eq_true rfl) rfl (fun p e s m args below meth c S => ?_) sz
  · unfold f_X10_logged at he
    refine z_aload_n S dX10_logged_0 rfl 0 rfl ?_
    refine z_getF (j := 110) S fo_RX10_7 1 rfl rfl ok_109 dX10_logged_1 ?_
    refine z_bipush (v := 107) S dX10_logged_4 (by decide) ?_
    refine z_iconst (v := 5) S dX10_logged_6 (by decide) ?_
    refine z_iload_n S dX10_logged_7 rfl 1 rfl ?_
    refine z_imul S dX10_logged_8 ?_
    refine z_iadd S dX10_logged_9 ?_
    refine z_iload_n S dX10_logged_10 rfl 2 rfl ?_
    refine z_iadd S dX10_logged_11 ?_
    refine z_iald S ok_110 rfl he dX10_logged_12 (fun he => ?_)
    exact z_iret S (⟨Option.some.inj he, rfl⟩) dX10_logged_13
set_option maxRecDepth 100000 in
set_option maxHeartbeats 4000000 in
theorem p_X10_rowsOf_J5_49 {X : Cx} {p : Program} {l : Launch} {e : Env} {s : State} {m : MethodId} {args : Array Value} {below : List Frame} {meth : Method} {c : Code} (S : SB X 1 p s m args meth c cX10_rowsOf 5 (some .int) RX10) {M : Mm} {r : Int32} {v1 : Int32} {v2 : Int32} {v4 : Int32} {t0 : Int32} {x : (Int32 × Int32) ⊕ Int32}  (he : f_X10_rowsOf_J5_49 M v1 v2 v4 t0 = some x) (hc : ∀ b, x = .inl b → Z X 1 p l e rm_X10_rowsOf s m args below meth c 0 0 (MQ below (QI X 1 r M s.heap.size) args s 0 0 (AA X 1 s.heap.size)) 5 M 5 [(0, .ref (X.2.2 109)), (1, .int v1), (2, .int v2), (3, .int b.1), (4, .int b.2)] []) (hx : ∀ b, x = .inr b → Z X 1 p l e rm_X10_rowsOf s m args below meth c 0 0 (MQ below (QI X 1 r M s.heap.size) args s 0 0 (AA X 1 s.heap.size)) 5 M 58 [(3, .int b)] []) : Z X 1 p l e rm_X10_rowsOf s m args below meth c 0 0 (MQ below (QI X 1 r M s.heap.size) args s 0 0 (AA X 1 s.heap.size)) 5 M 49 [(0, .ref (X.2.2 109)), (1, .int v1), (2, .int v2), (4, .int v4)] [.int t0] := by
  unfold f_X10_rowsOf_J5_49 at he
  refine z_iconst (v := 0) S dX10_rowsOf_49 (by decide) ?_
  refine z_iadd S dX10_rowsOf_50 ?_
  refine z_istore_n (lv' := [(0, .ref (X.2.2 109)), (1, .int v1), (2, .int v2), (3, .int (t0 + 0)), (4, .int v4)]) S [1, 2, 3, 0, 4] dX10_rowsOf_51 rfl (by decide) rfl ?_
  refine z_iinc (v := (v4 + 1)) (lv' := [(0, .ref (X.2.2 109)), (1, .int v1), (2, .int v2), (3, .int (t0 + 0)), (4, .int (v4 + 1))]) S [1, 2, 3, 4, 0] 4 dX10_rowsOf_52 rfl (by rfl) (by decide) rfl ?_
  refine z_goto (tgt := 5) S dX10_rowsOf_55 (by decide) ?_
  refine z_lv (ks := [0, 1, 2, 3, 4]) rfl ?_
  exact hc _ (Option.some.inj he).symm
set_option maxRecDepth 100000 in
set_option maxHeartbeats 4000000 in
theorem p_X10_rowsOf_J5_45 {X : Cx} {p : Program} {l : Launch} {e : Env} {s : State} {m : MethodId} {args : Array Value} {below : List Frame} {meth : Method} {c : Code} (S : SB X 1 p s m args meth c cX10_rowsOf 5 (some .int) RX10) {M : Mm} {r : Int32} {v1 : Int32} {v2 : Int32} {v4 : Int32} {t0 : Int32} {x : (Int32 × Int32) ⊕ Int32}  (he : f_X10_rowsOf_J5_45 M v1 v2 v4 t0 = some x) (hc : ∀ b, x = .inl b → Z X 1 p l e rm_X10_rowsOf s m args below meth c 0 0 (MQ below (QI X 1 r M s.heap.size) args s 0 0 (AA X 1 s.heap.size)) 5 M 5 [(0, .ref (X.2.2 109)), (1, .int v1), (2, .int v2), (3, .int b.1), (4, .int b.2)] []) (hx : ∀ b, x = .inr b → Z X 1 p l e rm_X10_rowsOf s m args below meth c 0 0 (MQ below (QI X 1 r M s.heap.size) args s 0 0 (AA X 1 s.heap.size)) 5 M 58 [(3, .int b)] []) : Z X 1 p l e rm_X10_rowsOf s m args below meth c 0 0 (MQ below (QI X 1 r M s.heap.size) args s 0 0 (AA X 1 s.heap.size)) 5 M 45 [(0, .ref (X.2.2 109)), (1, .int v1), (2, .int v2), (4, .int v4)] [.int t0] := by
  unfold f_X10_rowsOf_J5_45 at he
  refine z_iconst (v := 1) S dX10_rowsOf_45 (by decide) ?_
  refine z_goto (tgt := 50) S dX10_rowsOf_46 (by decide) ?_
  refine z_iadd S dX10_rowsOf_50 ?_
  refine z_istore_n (lv' := [(0, .ref (X.2.2 109)), (1, .int v1), (2, .int v2), (3, .int (t0 + 1)), (4, .int v4)]) S [1, 2, 3, 0, 4] dX10_rowsOf_51 rfl (by decide) rfl ?_
  refine z_iinc (v := (v4 + 1)) (lv' := [(0, .ref (X.2.2 109)), (1, .int v1), (2, .int v2), (3, .int (t0 + 1)), (4, .int (v4 + 1))]) S [1, 2, 3, 4, 0] 4 dX10_rowsOf_52 rfl (by rfl) (by decide) rfl ?_
  refine z_goto (tgt := 5) S dX10_rowsOf_55 (by decide) ?_
  refine z_lv (ks := [0, 1, 2, 3, 4]) rfl ?_
  exact hc _ (Option.some.inj he).symm
set_option maxRecDepth 100000 in
set_option maxHeartbeats 4000000 in
theorem p_X10_rowsOf_L5 {X : Cx} {p : Program} {l : Launch} {e : Env} {s : State} {m : MethodId} {args : Array Value} {below : List Frame} {meth : Method} {c : Code} (S : SB X 1 p s m args meth c cX10_rowsOf 5 (some .int) RX10) {M : Mm} {r : Int32} {v1 : Int32} {v2 : Int32} {v3 : Int32} {v4 : Int32} {x : (Int32 × Int32) ⊕ Int32}  (he : f_X10_rowsOf_L5 M v1 v2 v3 v4 = some x) (hc : ∀ b, x = .inl b → Z X 1 p l e rm_X10_rowsOf s m args below meth c 0 0 (MQ below (QI X 1 r M s.heap.size) args s 0 0 (AA X 1 s.heap.size)) 5 M 5 [(0, .ref (X.2.2 109)), (1, .int v1), (2, .int v2), (3, .int b.1), (4, .int b.2)] []) (hx : ∀ b, x = .inr b → Z X 1 p l e rm_X10_rowsOf s m args below meth c 0 0 (MQ below (QI X 1 r M s.heap.size) args s 0 0 (AA X 1 s.heap.size)) 5 M 58 [(3, .int b)] []) : Z X 1 p l e rm_X10_rowsOf s m args below meth c 0 0 (MQ below (QI X 1 r M s.heap.size) args s 0 0 (AA X 1 s.heap.size)) 5 M 5 [(0, .ref (X.2.2 109)), (1, .int v1), (2, .int v2), (3, .int v3), (4, .int v4)] [] := by
  unfold f_X10_rowsOf_L5 at he
  refine z_iload S dX10_rowsOf_5 4 rfl ?_
  refine z_aload_n S dX10_rowsOf_7 rfl 0 rfl ?_
  refine z_getF (j := 110) S fo_RX10_7 1 rfl rfl ok_109 dX10_rowsOf_8 ?_
  refine z_bipush (v := 8) S dX10_rowsOf_11 (by decide) ?_
  refine z_iald S ok_110 rfl he dX10_rowsOf_13 (fun he => ?_)
  refine z_icmp_ge (tgt := 58) S he dX10_rowsOf_14 (by decide) (fun he => ?_) (fun he => ?_)
  · refine z_lv (ks := [3]) rfl ?_
    exact hx _ (Option.some.inj he).symm
  · refine z_iload_n S dX10_rowsOf_17 rfl 3 rfl ?_
    refine z_aload_n S dX10_rowsOf_18 rfl 0 rfl ?_
    refine z_iload S dX10_rowsOf_19 4 rfl ?_
    refine z_iconst (v := 2) S dX10_rowsOf_21 (by decide) ?_
    obtain ⟨r1, h9, he⟩ := bnd he
    refine z_cVI (As := [.int v4, .int 2]) S cv_RX10_345 (K_X10_logged  h9) ok_109 (by decide) (q := (RX10, TX10, 28)) rfl rfl ⟨rfl, rfl⟩ ⟨Nat.le_of_ble_eq_true rfl, Nat.le_of_ble_eq_true rfl⟩ ⟨Nat.le_refl _, Nat.le_refl _⟩ rfl rfl (Nat.le_of_ble_eq_true rfl) dX10_rowsOf_22 ?_
    refine z_iload_n S dX10_rowsOf_25 rfl 1 rfl ?_
    refine z_icmp_ne (tgt := 49) S he dX10_rowsOf_26 (by decide) (fun he => ?_) (fun he => ?_)
    · refine z_lv (ks := [0, 1, 2, 4]) rfl ?_
      exact p_X10_rowsOf_J5_49 S  he hc hx
    · refine z_iload_n S dX10_rowsOf_29 rfl 2 rfl ?_
      refine z_iconst (v := (-1)) S dX10_rowsOf_30 (by decide) ?_
      refine z_icmp_eq (tgt := 45) S he dX10_rowsOf_31 (by decide) (fun he => ?_) (fun he => ?_)
      · refine z_lv (ks := [0, 1, 2, 4]) rfl ?_
        exact p_X10_rowsOf_J5_45 S  he hc hx
      · refine z_aload_n S dX10_rowsOf_34 rfl 0 rfl ?_
        refine z_iload S dX10_rowsOf_35 4 rfl ?_
        refine z_iconst (v := 1) S dX10_rowsOf_37 (by decide) ?_
        obtain ⟨r2, h9, he⟩ := bnd he
        refine z_cVI (As := [.int v4, .int 1]) S cv_RX10_345 (K_X10_logged  h9) ok_109 (by decide) (q := (RX10, TX10, 28)) rfl rfl ⟨rfl, rfl⟩ ⟨Nat.le_of_ble_eq_true rfl, Nat.le_of_ble_eq_true rfl⟩ ⟨Nat.le_refl _, Nat.le_refl _⟩ rfl rfl (Nat.le_of_ble_eq_true rfl) dX10_rowsOf_38 ?_
        refine z_iload_n S dX10_rowsOf_41 rfl 2 rfl ?_
        refine z_icmp_ne (tgt := 49) S he dX10_rowsOf_42 (by decide) (fun he => ?_) (fun he => ?_)
        · refine z_lv (ks := [0, 1, 2, 4]) rfl ?_
          exact p_X10_rowsOf_J5_49 S  he hc hx
        · refine z_lv (ks := [0, 1, 2, 4]) rfl ?_
          exact p_X10_rowsOf_J5_45 S  he hc hx
set_option maxRecDepth 100000 in
set_option maxHeartbeats 4000000 in
theorem K_X10_rowsOf {X : Cx} {l : Launch} {M : Mm} {a1 : Int32} {a2 : Int32} {r : Int32}  (he : f_X10_rowsOf M a1 a2 = some r) : KI X 1 l yX10_rowsOf (wz yX10_rowsOf cX10_rowsOf 5 (some .int)) rm_X10_rowsOf [.ref (X.2.2 109), .int a1, .int a2] M r M := by
  intro sz
  refine K_of (Qc := (fun sz => QI X 1 r M sz)) (own := RX10) (lv0 := [(0, .ref (X.2.2 109)), (1, .int a1), (2, .int a2)]) (by decide +kernel) rfl (Nat.le_of_ble_eq_true rfl) rfl (fun p e s m args below meth c S => ?_) sz
  · unfold f_X10_rowsOf at he
    refine z_iconst (v := 0) S dX10_rowsOf_0 (by decide) ?_
    refine z_istore_n (lv' := [(0, .ref (X.2.2 109)), (1, .int a1), (2, .int a2), (3, .int 0)]) S [1, 2, 3, 0] dX10_rowsOf_1 rfl (by decide) rfl ?_
    refine z_iconst (v := 0) S dX10_rowsOf_2 (by decide) ?_
    refine z_istore (lv' := [(0, .ref (X.2.2 109)), (1, .int a1), (2, .int a2), (3, .int 0), (4, .int 0)]) S [1, 2, 3, 4, 0] dX10_rowsOf_3 (by decide) rfl ?_
    obtain ⟨e_3, hl, he⟩ := bnd he
    have hX : Z X 1 p l e rm_X10_rowsOf s m args below meth c 0 0 (MQ below (QI X 1 r M s.heap.size) args s 0 0 (AA X 1 s.heap.size)) 5 M 58 [(3, .int e_3)] [] := by
      refine z_iload_n S dX10_rowsOf_58 rfl 0 rfl ?_
      exact z_iret S (⟨Option.some.inj he, rfl⟩) dX10_rowsOf_59
    have hZ9 := loopZ (f := (fun a_3 => f_X10_rowsOf_L5 M a1 a2 a_3.1 a_3.2)) (Zh := (fun a_3 => Z X 1 p l e rm_X10_rowsOf s m args below meth c 0 0 (MQ below (QI X 1 r M s.heap.size) args s 0 0 (AA X 1 s.heap.size)) 5 M 5 [(0, .ref (X.2.2 109)), (1, .int a1), (2, .int a2), (3, .int a_3.1), (4, .int a_3.2)] [])) (fun a_3 x hb hc hr => p_X10_rowsOf_L5 S  hb hc (fun b hxe => by rw [hr b hxe]; exact hX)) FU (0, 0) hl
    exact hZ9
set_option maxRecDepth 100000 in
set_option maxHeartbeats 4000000 in
theorem p_X10_led_J42_75 {X : Cx} {p : Program} {l : Launch} {e : Env} {s : State} {m : MethodId} {args : Array Value} {below : List Frame} {meth : Method} {c : Code} (S : SB X 1 p s m args meth c cX10_led 5 (some .int) RX10) {M : Mm} {N : Mm} {r : Int32} {v1 : Int32} {v3 : Int32} {v4 : Int32} {t0 : Int32} {t1 : Int32} {x : (Int32 × Int32) ⊕ Int32}  (he : f_X10_led_J42_75 M v1 v3 v4 t0 t1 = some x) (hc : ∀ b, x = .inl b → Z X 1 p l e rm_X10_led s m args below meth c 0 0 (MQ below (QI X 1 r N s.heap.size) args s 0 0 (AA X 1 s.heap.size)) 5 M 42 [(0, .ref (X.2.2 109)), (1, .int v1), (3, .int b.1), (4, .int b.2)] []) (hx : ∀ b, x = .inr b → Z X 1 p l e rm_X10_led s m args below meth c 0 0 (MQ below (QI X 1 r N s.heap.size) args s 0 0 (AA X 1 s.heap.size)) 5 M 87 [(3, .int b)] []) : Z X 1 p l e rm_X10_led s m args below meth c 0 0 (MQ below (QI X 1 r N s.heap.size) args s 0 0 (AA X 1 s.heap.size)) 5 M 75 [(0, .ref (X.2.2 109)), (1, .int v1), (3, .int v3), (4, .int v4)] [.int t0, .int t1] := by
  unfold f_X10_led_J42_75 at he
  refine z_icmp_le (tgt := 81) S he dX10_led_75 (by decide) (fun he => ?_) (fun he => ?_)
  · refine z_iinc (v := (v4 + 1)) (lv' := [(0, .ref (X.2.2 109)), (1, .int v1), (3, .int v3), (4, .int (v4 + 1))]) S [1, 2, 3, 0] 3 dX10_led_81 rfl (by rfl) (by decide) rfl ?_
    refine z_goto (tgt := 42) S dX10_led_84 (by decide) ?_
    refine z_lv (ks := [0, 1, 2, 3]) rfl ?_
    exact hc _ (Option.some.inj he).symm
  · refine z_iload S dX10_led_78 3 rfl ?_
    refine z_istore_n (lv' := [(0, .ref (X.2.2 109)), (1, .int v1), (3, .int v4), (4, .int v4)]) S [1, 2, 0, 3] dX10_led_80 rfl (by decide) rfl ?_
    refine z_iinc (v := (v4 + 1)) (lv' := [(0, .ref (X.2.2 109)), (1, .int v1), (3, .int v4), (4, .int (v4 + 1))]) S [1, 2, 3, 0] 3 dX10_led_81 rfl (by rfl) (by decide) rfl ?_
    refine z_goto (tgt := 42) S dX10_led_84 (by decide) ?_
    refine z_lv (ks := [0, 1, 2, 3]) rfl ?_
    exact hc _ (Option.some.inj he).symm
set_option maxRecDepth 100000 in
set_option maxHeartbeats 4000000 in
theorem p_X10_led_L42 {X : Cx} {p : Program} {l : Launch} {e : Env} {s : State} {m : MethodId} {args : Array Value} {below : List Frame} {meth : Method} {c : Code} (S : SB X 1 p s m args meth c cX10_led 5 (some .int) RX10) {M : Mm} {N : Mm} {r : Int32} {v1 : Int32} {v3 : Int32} {v4 : Int32} {x : (Int32 × Int32) ⊕ Int32}  (he : f_X10_led_L42 M v1 v3 v4 = some x) (hc : ∀ b, x = .inl b → Z X 1 p l e rm_X10_led s m args below meth c 0 0 (MQ below (QI X 1 r N s.heap.size) args s 0 0 (AA X 1 s.heap.size)) 5 M 42 [(0, .ref (X.2.2 109)), (1, .int v1), (3, .int b.1), (4, .int b.2)] []) (hx : ∀ b, x = .inr b → Z X 1 p l e rm_X10_led s m args below meth c 0 0 (MQ below (QI X 1 r N s.heap.size) args s 0 0 (AA X 1 s.heap.size)) 5 M 87 [(3, .int b)] []) : Z X 1 p l e rm_X10_led s m args below meth c 0 0 (MQ below (QI X 1 r N s.heap.size) args s 0 0 (AA X 1 s.heap.size)) 5 M 42 [(0, .ref (X.2.2 109)), (1, .int v1), (3, .int v3), (4, .int v4)] [] := by
  unfold f_X10_led_L42 at he
  refine z_iload S dX10_led_42 3 rfl ?_
  refine z_aload_n S dX10_led_44 rfl 0 rfl ?_
  refine z_getF (j := 110) S fo_RX10_7 1 rfl rfl ok_109 dX10_led_45 ?_
  refine z_iconst (v := 4) S dX10_led_48 (by decide) ?_
  refine z_iald S ok_110 rfl he dX10_led_49 (fun he => ?_)
  refine z_icmp_ge (tgt := 87) S he dX10_led_50 (by decide) (fun he => ?_) (fun he => ?_)
  · refine z_lv (ks := [2]) rfl ?_
    exact hx _ (Option.some.inj he).symm
  · refine z_aload_n S dX10_led_53 rfl 0 rfl ?_
    refine z_iload_n S dX10_led_54 rfl 1 rfl ?_
    refine z_iload S dX10_led_55 3 rfl ?_
    obtain ⟨r3, h9, he⟩ := bnd he
    refine z_cVI (As := [.int v1, .int v4]) S cv_RX10_348 (K_X10_rowsOf  h9) ok_109 (by decide) (q := (RX10, TX10, 28)) rfl rfl ⟨rfl, rfl⟩ ⟨Nat.le_of_ble_eq_true rfl, Nat.le_of_ble_eq_true rfl⟩ ⟨Nat.le_refl _, Nat.le_refl _⟩ rfl rfl (Nat.le_of_ble_eq_true rfl) dX10_led_57 ?_
    refine z_iload_n S dX10_led_60 rfl 2 rfl ?_
    refine z_iconst (v := (-1)) S dX10_led_61 (by decide) ?_
    refine z_icmp_ne (tgt := 69) S he dX10_led_62 (by decide) (fun he => ?_) (fun he => ?_)
    · refine z_aload_n S dX10_led_69 rfl 0 rfl ?_
      refine z_iload_n S dX10_led_70 rfl 1 rfl ?_
      refine z_iload_n S dX10_led_71 rfl 2 rfl ?_
      obtain ⟨r4, h9, he⟩ := bnd he
      refine z_cVI (As := [.int v1, .int v3]) S cv_RX10_348 (K_X10_rowsOf  h9) ok_109 (by decide) (q := (RX10, TX10, 28)) rfl rfl ⟨rfl, rfl⟩ ⟨Nat.le_of_ble_eq_true rfl, Nat.le_of_ble_eq_true rfl⟩ ⟨Nat.le_refl _, Nat.le_refl _⟩ rfl rfl (Nat.le_of_ble_eq_true rfl) dX10_led_72 ?_
      exact p_X10_led_J42_75 S  he hc hx
    · refine z_iconst (v := 0) S dX10_led_65 (by decide) ?_
      refine z_goto (tgt := 75) S dX10_led_66 (by decide) ?_
      exact p_X10_led_J42_75 S  he hc hx
set_option maxRecDepth 100000 in
set_option maxHeartbeats 4000000 in
theorem p_X10_led_J14 {X : Cx} {p : Program} {l : Launch} {e : Env} {s : State} {m : MethodId} {args : Array Value} {below : List Frame} {meth : Method} {c : Code} (S : SB X 1 p s m args meth c cX10_led 5 (some .int) RX10) {M : Mm} {N : Mm} {r : Int32} {v1 : Int32} {v2 : Int32} {t0 : Int32}  (he : f_X10_led_J14 M v1 v2 t0 = some (r, N)) : Z X 1 p l e rm_X10_led s m args below meth c 0 0 (MQ below (QI X 1 r N s.heap.size) args s 0 0 (AA X 1 s.heap.size)) 5 M 14 [(0, .ref (X.2.2 109)), (1, .int v1), (2, .int v2)] [.int t0, .ref (X.2.2 109)] := by
  unfold f_X10_led_J14 at he
  refine z_putIb S fo_RX10_63p rfl ok_109 rfl rfl he dX10_led_14 (fun M2 he => ?_)
  refine z_aload_n S dX10_led_17 rfl 0 rfl ?_
  refine z_getI S fo_RX10_63 rfl ok_109 dX10_led_18 ?_
  refine z_if_le (tgt := 26) S he dX10_led_21 (by decide) (fun he => ?_) (fun he => ?_)
  · refine z_iload_n S dX10_led_26 rfl 2 rfl ?_
    refine z_if_ne (tgt := 37) S he dX10_led_27 (by decide) (fun he => ?_) (fun he => ?_)
    · refine z_iconst (v := (-1)) S dX10_led_37 (by decide) ?_
      refine z_istore_n (lv' := [(0, .ref (X.2.2 109)), (1, .int v1), (3, .int (-1))]) S [1, 2, 0] dX10_led_38 rfl (by decide) rfl ?_
      refine z_iconst (v := 0) S dX10_led_39 (by decide) ?_
      refine z_istore (lv' := [(0, .ref (X.2.2 109)), (1, .int v1), (3, .int (-1)), (4, .int 0)]) S [1, 2, 3, 0] dX10_led_40 (by decide) rfl ?_
      obtain ⟨e_5, hl, he⟩ := bnd he
      have hX : Z X 1 p l e rm_X10_led s m args below meth c 0 0 (MQ below (QI X 1 r N s.heap.size) args s 0 0 (AA X 1 s.heap.size)) 5 M2 87 [(3, .int e_5)] [] := by
        refine z_iload_n S dX10_led_87 rfl 0 rfl ?_
        exact z_iret S (Prod.mk.inj (Option.some.inj he)) dX10_led_88
      have hZ9 := loopZ (f := (fun a_5 => f_X10_led_L42 M2 v1 a_5.1 a_5.2)) (Zh := (fun a_5 => Z X 1 p l e rm_X10_led s m args below meth c 0 0 (MQ below (QI X 1 r N s.heap.size) args s 0 0 (AA X 1 s.heap.size)) 5 M2 42 [(0, .ref (X.2.2 109)), (1, .int v1), (3, .int a_5.1), (4, .int a_5.2)] [])) (fun a_5 x hb hc hr => p_X10_led_L42 S  hb hc (fun b hxe => by rw [hr b hxe]; exact hX)) FU ((-1), 0) hl
      exact hZ9
    · refine z_aload_n S dX10_led_30 rfl 0 rfl ?_
      refine z_iload_n S dX10_led_31 rfl 1 rfl ?_
      refine z_iconst (v := (-1)) S dX10_led_32 (by decide) ?_
      obtain ⟨r6, h9, he⟩ := bnd he
      refine z_cVI (As := [.int v1, .int (-1)]) S cv_RX10_348 (K_X10_rowsOf  h9) ok_109 (by decide) (q := (RX10, TX10, 28)) rfl rfl ⟨rfl, rfl⟩ ⟨Nat.le_of_ble_eq_true rfl, Nat.le_of_ble_eq_true rfl⟩ ⟨Nat.le_refl _, Nat.le_refl _⟩ rfl rfl (Nat.le_of_ble_eq_true rfl) dX10_led_33 ?_
      exact z_iret S (Prod.mk.inj (Option.some.inj he)) dX10_led_36
  · refine z_iconst (v := 0) S dX10_led_24 (by decide) ?_
    exact z_iret S (Prod.mk.inj (Option.some.inj he)) dX10_led_25
set_option maxRecDepth 100000 in
set_option maxHeartbeats 4000000 in
theorem K_X10_led {X : Cx} {l : Launch} {M : Mm} {a1 : Int32} {a2 : Int32} {r : Int32} {N : Mm}  (he : f_X10_led M a1 a2 = some (r, N)) : KI X 1 l yX10_led (wz yX10_led cX10_led 5 (some .int)) rm_X10_led [.ref (X.2.2 109), .int a1, .int a2] M r N := by
  intro sz
  refine K_of (Qc := (fun sz => QI X 1 r N sz)) (own := RX10) (lv0 := [(0, .ref (X.2.2 109)), (1, .int a1), (2, .int a2)]) (by decide +kernel) rfl (Nat.le_of_ble_eq_true rfl) rfl (fun p e s m args below meth c S => ?_) sz
  · unfold f_X10_led at he
    refine z_aload_n S dX10_led_0 rfl 0 rfl ?_
    refine z_aload_n S dX10_led_1 rfl 0 rfl ?_
    refine z_iload_n S dX10_led_2 rfl 1 rfl ?_
    obtain ⟨r1, h9, he⟩ := bnd he
    refine z_cVI (As := [.int a1]) S cv_RX10_285 (K_X10_isThing  h9) ok_109 (by decide) (q := (RX10, TX10, 28)) rfl rfl ⟨rfl, rfl⟩ ⟨Nat.le_of_ble_eq_true rfl, Nat.le_of_ble_eq_true rfl⟩ ⟨Nat.le_refl _, Nat.le_refl _⟩ rfl rfl (Nat.le_of_ble_eq_true rfl) dX10_led_3 ?_
    refine z_ifb_ne (tgt := 13) S he dX10_led_6 (by decide) (fun he => ?_) (fun he => ?_)
    · refine z_iconst (v := 0) S dX10_led_13 (by decide) ?_
      exact p_X10_led_J14 S  he
    · refine z_iconst (v := 1) S dX10_led_9 (by decide) ?_
      refine z_goto (tgt := 14) S dX10_led_10 (by decide) ?_
      exact p_X10_led_J14 S  he
set_option maxRecDepth 100000 in
set_option maxHeartbeats 4000000 in
theorem p_X10_liking_J22 {X : Cx} {p : Program} {l : Launch} {e : Env} {s : State} {m : MethodId} {args : Array Value} {below : List Frame} {meth : Method} {c : Code} (S : SB X 1 p s m args meth c cX10_liking 3 (some .int) RX10) {M : Mm} {N : Mm} {r : Int32} {v1 : Int32} {v2 : Int32} {t0 : Int32}  (he : f_X10_liking_J22 M v1 v2 t0 = some (r, N)) : Z X 1 p l e rm_X10_liking s m args below meth c 0 0 (MQ below (QI X 1 r N s.heap.size) args s 0 0 (AA X 1 s.heap.size)) 3 M 22 [(0, .ref (X.2.2 109)), (1, .int v1), (2, .int v2)] [.int t0, .ref (X.2.2 109)] := by
  unfold f_X10_liking_J22 at he
  refine z_putIb S fo_RX10_63p rfl ok_109 rfl rfl he dX10_liking_22 (fun M2 he => ?_)
  refine z_aload_n S dX10_liking_25 rfl 0 rfl ?_
  refine z_getI S fo_RX10_63 rfl ok_109 dX10_liking_26 ?_
  refine z_if_le (tgt := 36) S he dX10_liking_29 (by decide) (fun he => ?_) (fun he => ?_)
  · refine z_aload_n S dX10_liking_36 rfl 0 rfl ?_
    refine z_iload_n S dX10_liking_37 rfl 1 rfl ?_
    refine z_iload_n S dX10_liking_38 rfl 2 rfl ?_
    refine z_aload_n S dX10_liking_39 rfl 0 rfl ?_
    refine z_iload_n S dX10_liking_40 rfl 2 rfl ?_
    refine z_iconst (v := 4) S dX10_liking_41 (by decide) ?_
    obtain ⟨r3, h9, he⟩ := bnd he
    refine z_cVI (As := [.int v2, .int 4]) S cv_RX10_246 (K_X10_ofOne  h9) ok_109 (by decide) (q := (RX10, TX10, 28)) rfl rfl ⟨rfl, rfl⟩ ⟨Nat.le_of_ble_eq_true rfl, Nat.le_of_ble_eq_true rfl⟩ ⟨Nat.le_refl _, Nat.le_refl _⟩ rfl rfl (Nat.le_of_ble_eq_true rfl) dX10_liking_42 ?_
    obtain ⟨⟨r4, M5⟩, h9, he⟩ := bnd he
    dsimp only at he
    refine z_cVI (As := [.int v1, .int v2, .int r3]) S cv_RX10_252 (K_X10_likesOne  h9) ok_109 (by decide) (q := (RX10, TX10, 28)) rfl rfl ⟨rfl, rfl⟩ ⟨Nat.le_of_ble_eq_true rfl, Nat.le_of_ble_eq_true rfl⟩ ⟨Nat.le_refl _, Nat.le_refl _⟩ rfl rfl (Nat.le_of_ble_eq_true rfl) dX10_liking_45 ?_
    exact z_iret S (Prod.mk.inj (Option.some.inj he)) dX10_liking_48
  · refine z_iconst (v := 0) S dX10_liking_32 (by decide) ?_
    refine z_goto (tgt := 48) S dX10_liking_33 (by decide) ?_
    exact z_iret S (Prod.mk.inj (Option.some.inj he)) dX10_liking_48
set_option maxRecDepth 100000 in
set_option maxHeartbeats 4000000 in
theorem p_X10_liking_J17 {X : Cx} {p : Program} {l : Launch} {e : Env} {s : State} {m : MethodId} {args : Array Value} {below : List Frame} {meth : Method} {c : Code} (S : SB X 1 p s m args meth c cX10_liking 3 (some .int) RX10) {M : Mm} {N : Mm} {r : Int32} {v1 : Int32} {v2 : Int32}  (he : f_X10_liking_J17 M v1 v2 = some (r, N)) : Z X 1 p l e rm_X10_liking s m args below meth c 0 0 (MQ below (QI X 1 r N s.heap.size) args s 0 0 (AA X 1 s.heap.size)) 3 M 17 [(0, .ref (X.2.2 109)), (1, .int v1), (2, .int v2)] [.ref (X.2.2 109)] := by
  unfold f_X10_liking_J17 at he
  refine z_iconst (v := 1) S dX10_liking_17 (by decide) ?_
  refine z_goto (tgt := 22) S dX10_liking_18 (by decide) ?_
  exact p_X10_liking_J22 S  he
set_option maxRecDepth 100000 in
set_option maxHeartbeats 4000000 in
theorem K_X10_liking {X : Cx} {l : Launch} {M : Mm} {a1 : Int32} {a2 : Int32} {r : Int32} {N : Mm}  (he : f_X10_liking M a1 a2 = some (r, N)) : KI X 1 l yX10_liking (wz yX10_liking cX10_liking 3 (some .int)) rm_X10_liking [.ref (X.2.2 109), .int a1, .int a2] M r N := by
  intro sz
  refine K_of (Qc := (fun sz => QI X 1 r N sz)) (own := RX10) (lv0 := [(0, .ref (X.2.2 109)), (1, .int a1), (2, .int a2)]) (by decide +kernel) rfl (Nat.le_of_ble_eq_true rfl) rfl (fun p e s m args below meth c S => ?_) sz
  · unfold f_X10_liking at he
    refine z_aload_n S dX10_liking_0 rfl 0 rfl ?_
    refine z_aload_n S dX10_liking_1 rfl 0 rfl ?_
    refine z_iload_n S dX10_liking_2 rfl 1 rfl ?_
    obtain ⟨r1, h9, he⟩ := bnd he
    refine z_cVI (As := [.int a1]) S cv_RX10_285 (K_X10_isThing  h9) ok_109 (by decide) (q := (RX10, TX10, 28)) rfl rfl ⟨rfl, rfl⟩ ⟨Nat.le_of_ble_eq_true rfl, Nat.le_of_ble_eq_true rfl⟩ ⟨Nat.le_refl _, Nat.le_refl _⟩ rfl rfl (Nat.le_of_ble_eq_true rfl) dX10_liking_3 ?_
    refine z_ifb_eq (tgt := 17) S he dX10_liking_6 (by decide) (fun he => ?_) (fun he => ?_)
    · exact p_X10_liking_J17 S  he
    · refine z_aload_n S dX10_liking_9 rfl 0 rfl ?_
      refine z_iload_n S dX10_liking_10 rfl 2 rfl ?_
      obtain ⟨r6, h9, he⟩ := bnd he
      refine z_cVI (As := [.int a2]) S cv_RX10_300 (K_X10_isVisitor  h9) ok_109 (by decide) (q := (RX10, TX10, 28)) rfl rfl ⟨rfl, rfl⟩ ⟨Nat.le_of_ble_eq_true rfl, Nat.le_of_ble_eq_true rfl⟩ ⟨Nat.le_refl _, Nat.le_refl _⟩ rfl rfl (Nat.le_of_ble_eq_true rfl) dX10_liking_11 ?_
      refine z_ifb_ne (tgt := 21) S he dX10_liking_14 (by decide) (fun he => ?_) (fun he => ?_)
      · refine z_iconst (v := 0) S dX10_liking_21 (by decide) ?_
        exact p_X10_liking_J22 S  he
      · exact p_X10_liking_J17 S  he
set_option maxRecDepth 100000 in
set_option maxHeartbeats 4000000 in
theorem p_X10_log_J15 {X : Cx} {p : Program} {l : Launch} {e : Env} {s : State} {m : MethodId} {args : Array Value} {below : List Frame} {meth : Method} {c : Code} (S : SB X 1 p s m args meth c cX10_log 3 (some .int) RX10) {M : Mm} {N : Mm} {r : Int32} {v1 : Int32} {v2 : Int32} {t0 : Int32}  (he : f_X10_log_J15 M v1 v2 t0 = some (r, N)) : Z X 1 p l e rm_X10_log s m args below meth c 0 0 (MQ below (QI X 1 r N s.heap.size) args s 0 0 (AA X 1 s.heap.size)) 3 M 15 [(0, .ref (X.2.2 109)), (1, .int v1), (2, .int v2)] [.int t0, .ref (X.2.2 109)] := by
  unfold f_X10_log_J15 at he
  refine z_putIb S fo_RX10_63p rfl ok_109 rfl rfl he dX10_log_15 (fun M1 he => ?_)
  refine z_aload_n S dX10_log_18 rfl 0 rfl ?_
  refine z_getI S fo_RX10_63 rfl ok_109 dX10_log_19 ?_
  refine z_if_le (tgt := 27) S he dX10_log_22 (by decide) (fun he => ?_) (fun he => ?_)
  · refine z_iload_n S dX10_log_27 rfl 1 rfl ?_
    refine z_iconst (v := 0) S dX10_log_28 (by decide) ?_
    refine z_aload_n S dX10_log_29 rfl 0 rfl ?_
    refine z_getF (j := 110) S fo_RX10_7 1 rfl rfl ok_109 dX10_log_30 ?_
    refine z_bipush (v := 8) S dX10_log_33 (by decide) ?_
    refine z_iald S ok_110 rfl he dX10_log_35 (fun he => ?_)
    refine z_iconst (v := 1) S dX10_log_36 (by decide) ?_
    refine z_isub S dX10_log_37 ?_
    refine z_cSI (As := [.int v1, .int 0, .int ((gA M1 110 8) - 1)]) S cs_RX10_66 (K_X10_isIn  rfl) ⟨rfl, rfl⟩ ⟨Nat.le_of_ble_eq_true rfl, Nat.le_of_ble_eq_true rfl⟩ ⟨Nat.le_refl _, Nat.le_refl _⟩ rfl rfl (Nat.le_of_ble_eq_true rfl) dX10_log_38 ?_
    refine z_ifb_eq (tgt := 53) S he dX10_log_41 (by decide) (fun he => ?_) (fun he => ?_)
    · refine z_iconst (v := (-1)) S dX10_log_53 (by decide) ?_
      exact z_iret S (Prod.mk.inj (Option.some.inj he)) dX10_log_54
    · refine z_aload_n S dX10_log_44 rfl 0 rfl ?_
      refine z_iload_n S dX10_log_45 rfl 1 rfl ?_
      refine z_iload_n S dX10_log_46 rfl 2 rfl ?_
      obtain ⟨r2, h9, he⟩ := bnd he
      refine z_cVI (As := [.int v1, .int v2]) S cv_RX10_345 (K_X10_logged  h9) ok_109 (by decide) (q := (RX10, TX10, 28)) rfl rfl ⟨rfl, rfl⟩ ⟨Nat.le_of_ble_eq_true rfl, Nat.le_of_ble_eq_true rfl⟩ ⟨Nat.le_refl _, Nat.le_refl _⟩ rfl rfl (Nat.le_of_ble_eq_true rfl) dX10_log_47 ?_
      refine z_goto (tgt := 54) S dX10_log_50 (by decide) ?_
      exact z_iret S (Prod.mk.inj (Option.some.inj he)) dX10_log_54
  · refine z_iconst (v := 0) S dX10_log_25 (by decide) ?_
    exact z_iret S (Prod.mk.inj (Option.some.inj he)) dX10_log_26
set_option maxRecDepth 100000 in
set_option maxHeartbeats 4000000 in
theorem K_X10_log {X : Cx} {l : Launch} {M : Mm} {a1 : Int32} {a2 : Int32} {r : Int32} {N : Mm}  (he : f_X10_log M a1 a2 = some (r, N)) : KI X 1 l yX10_log (wz yX10_log cX10_log 3 (some .int)) rm_X10_log [.ref (X.2.2 109), .int a1, .int a2] M r N := by
  intro sz
  refine K_of (Qc := (fun sz => QI X 1 r N sz)) (own := RX10) (lv0 := [(0, .ref (X.2.2 109)), (1, .int a1), (2, .int a2)]) (by decide +kernel) rfl (Nat.le_of_ble_eq_true rfl) rfl (fun p e s m args below meth c S => ?_) sz
  · unfold f_X10_log at he
    refine z_aload_n S dX10_log_0 rfl 0 rfl ?_
    refine z_iload_n S dX10_log_1 rfl 2 rfl ?_
    refine z_iconst (v := 0) S dX10_log_2 (by decide) ?_
    refine z_iconst (v := 4) S dX10_log_3 (by decide) ?_
    refine z_cSI (As := [.int a2, .int 0, .int 4]) S cs_RX10_66 (K_X10_isIn  rfl) ⟨rfl, rfl⟩ ⟨Nat.le_of_ble_eq_true rfl, Nat.le_of_ble_eq_true rfl⟩ ⟨Nat.le_refl _, Nat.le_refl _⟩ rfl rfl (Nat.le_of_ble_eq_true rfl) dX10_log_4 ?_
    refine z_ifb_ne (tgt := 14) S he dX10_log_7 (by decide) (fun he => ?_) (fun he => ?_)
    · refine z_iconst (v := 0) S dX10_log_14 (by decide) ?_
      exact p_X10_log_J15 S  he
    · refine z_iconst (v := 1) S dX10_log_10 (by decide) ?_
      refine z_goto (tgt := 15) S dX10_log_11 (by decide) ?_
      exact p_X10_log_J15 S  he
set_option maxRecDepth 100000 in
set_option maxHeartbeats 4000000 in
theorem p_X10_mark_J80 {X : Cx} {p : Program} {l : Launch} {e : Env} {s : State} {m : MethodId} {args : Array Value} {below : List Frame} {meth : Method} {c : Code} (S : SB X 1 p s m args meth c cX10_mark 5 (some .boolean) RX10) {M : Mm} {N : Mm} {r : Bool} {v1 : Int32} {v4 : Int32} {t0 : Int32} {t1 : Int32}  (he : f_X10_mark_J80 M v1 v4 t0 t1 = some (r, N)) : Z X 1 p l e rm_X10_mark s m args below meth c 0 0 (MQ below (QI X 1 (bI r) N s.heap.size) args s 0 0 (AA X 1 s.heap.size)) 5 M 80 [(0, .ref (X.2.2 109)), (1, .int v1), (4, .int v4)] [.int t0, .int t1, .ref (X.2.2 110)] := by
  unfold f_X10_mark_J80 at he
  refine z_iastb S ok_110 rfl he dX10_mark_80 (fun M5 he => ?_)
  refine z_iload S dX10_mark_81 2 rfl ?_
  refine z_aload_n S dX10_mark_83 rfl 0 rfl ?_
  refine z_iload_n S dX10_mark_84 rfl 1 rfl ?_
  refine z_iconst (v := 4) S dX10_mark_85 (by decide) ?_
  obtain ⟨r6, h9, he⟩ := bnd he
  refine z_cVI (As := [.int v1, .int 4]) S cv_RX10_246 (K_X10_ofOne  h9) ok_109 (by decide) (q := (RX10, TX10, 28)) rfl rfl ⟨rfl, rfl⟩ ⟨Nat.le_of_ble_eq_true rfl, Nat.le_of_ble_eq_true rfl⟩ ⟨Nat.le_refl _, Nat.le_refl _⟩ rfl rfl (Nat.le_of_ble_eq_true rfl) dX10_mark_86 ?_
  refine z_icmp_eq (tgt := 96) S he dX10_mark_89 (by decide) (fun he => ?_) (fun he => ?_)
  · refine z_iconst (v := 0) S dX10_mark_96 (by decide) ?_
    exact z_zret0 S (Prod.mk.inj (Option.some.inj he)) dX10_mark_97
  · refine z_iconst (v := 1) S dX10_mark_92 (by decide) ?_
    refine z_goto (tgt := 97) S dX10_mark_93 (by decide) ?_
    exact z_zret1 S (Prod.mk.inj (Option.some.inj he)) dX10_mark_97
set_option maxRecDepth 100000 in
set_option maxHeartbeats 4000000 in
theorem p_X10_mark_J23 {X : Cx} {p : Program} {l : Launch} {e : Env} {s : State} {m : MethodId} {args : Array Value} {below : List Frame} {meth : Method} {c : Code} (S : SB X 1 p s m args meth c cX10_mark 5 (some .boolean) RX10) {M : Mm} {N : Mm} {r : Bool} {v1 : Int32} {v2 : Int32} {v3 : Int32} {t0 : Int32}  (he : f_X10_mark_J23 M v1 v2 v3 t0 = some (r, N)) : Z X 1 p l e rm_X10_mark s m args below meth c 0 0 (MQ below (QI X 1 (bI r) N s.heap.size) args s 0 0 (AA X 1 s.heap.size)) 5 M 23 [(0, .ref (X.2.2 109)), (1, .int v1), (2, .int v2), (3, .int v3)] [.int t0, .ref (X.2.2 109)] := by
  unfold f_X10_mark_J23 at he
  refine z_putIb S fo_RX10_63p rfl ok_109 rfl rfl he dX10_mark_23 (fun M2 he => ?_)
  refine z_aload_n S dX10_mark_26 rfl 0 rfl ?_
  refine z_getI S fo_RX10_63 rfl ok_109 dX10_mark_27 ?_
  refine z_if_le (tgt := 35) S he dX10_mark_30 (by decide) (fun he => ?_) (fun he => ?_)
  · refine z_aload_n S dX10_mark_35 rfl 0 rfl ?_
    obtain ⟨M3, h9, he⟩ := bnd he
    refine z_cVV (As := []) S cv_RX10_306 (K_X10_remembers  h9) ok_109 (by decide) (q := (RX10, TX10, 28)) rfl rfl ⟨rfl, rfl⟩ ⟨Nat.le_of_ble_eq_true rfl, Nat.le_of_ble_eq_true rfl⟩ ⟨Nat.le_refl _, Nat.le_refl _⟩ rfl rfl (Nat.le_of_ble_eq_true rfl) dX10_mark_36 ?_
    refine z_aload_n S dX10_mark_39 rfl 0 rfl ?_
    refine z_iload_n S dX10_mark_40 rfl 1 rfl ?_
    refine z_iconst (v := 4) S dX10_mark_41 (by decide) ?_
    obtain ⟨r4, h9, he⟩ := bnd he
    refine z_cVI (As := [.int v1, .int 4]) S cv_RX10_246 (K_X10_ofOne  h9) ok_109 (by decide) (q := (RX10, TX10, 28)) rfl rfl ⟨rfl, rfl⟩ ⟨Nat.le_of_ble_eq_true rfl, Nat.le_of_ble_eq_true rfl⟩ ⟨Nat.le_refl _, Nat.le_refl _⟩ rfl rfl (Nat.le_of_ble_eq_true rfl) dX10_mark_42 ?_
    refine z_istore (lv' := [(0, .ref (X.2.2 109)), (1, .int v1), (2, .int v2), (3, .int v3), (4, .int r4)]) S [1, 2, 3, 4, 0] dX10_mark_45 (by decide) rfl ?_
    refine z_aload_n S dX10_mark_47 rfl 0 rfl ?_
    refine z_getF (j := 110) S fo_RX10_7 1 rfl rfl ok_109 dX10_mark_48 ?_
    refine z_bipush (v := 57) S dX10_mark_51 (by decide) ?_
    refine z_iconst (v := 5) S dX10_mark_53 (by decide) ?_
    refine z_iload_n S dX10_mark_54 rfl 1 rfl ?_
    refine z_imul S dX10_mark_55 ?_
    refine z_iadd S dX10_mark_56 ?_
    refine z_iconst (v := 4) S dX10_mark_57 (by decide) ?_
    refine z_iadd S dX10_mark_58 ?_
    refine z_iload_n S dX10_mark_59 rfl 3 rfl ?_
    refine z_if_eq (tgt := 72) S he dX10_mark_60 (by decide) (fun he => ?_) (fun he => ?_)
    · refine z_iload S dX10_mark_72 4 rfl ?_
      refine z_iconst (v := 1) S dX10_mark_74 (by decide) ?_
      refine z_iload_n S dX10_mark_75 rfl 2 rfl ?_
      refine z_ishl S dX10_mark_76 ?_
      refine z_iconst (v := (-1)) S dX10_mark_77 (by decide) ?_
      refine z_ixor S dX10_mark_78 ?_
      refine z_iand S dX10_mark_79 ?_
      refine z_lv (ks := [0, 1, 4]) rfl ?_
      exact p_X10_mark_J80 S  he
    · refine z_iload S dX10_mark_63 4 rfl ?_
      refine z_iconst (v := 1) S dX10_mark_65 (by decide) ?_
      refine z_iload_n S dX10_mark_66 rfl 2 rfl ?_
      refine z_ishl S dX10_mark_67 ?_
      refine z_ior S dX10_mark_68 ?_
      refine z_goto (tgt := 80) S dX10_mark_69 (by decide) ?_
      refine z_lv (ks := [0, 1, 4]) rfl ?_
      exact p_X10_mark_J80 S  he
  · refine z_iconst (v := 0) S dX10_mark_33 (by decide) ?_
    exact z_zret0 S (Prod.mk.inj (Option.some.inj he)) dX10_mark_34
set_option maxRecDepth 100000 in
set_option maxHeartbeats 4000000 in
theorem p_X10_mark_J18 {X : Cx} {p : Program} {l : Launch} {e : Env} {s : State} {m : MethodId} {args : Array Value} {below : List Frame} {meth : Method} {c : Code} (S : SB X 1 p s m args meth c cX10_mark 5 (some .boolean) RX10) {M : Mm} {N : Mm} {r : Bool} {v1 : Int32} {v2 : Int32} {v3 : Int32}  (he : f_X10_mark_J18 M v1 v2 v3 = some (r, N)) : Z X 1 p l e rm_X10_mark s m args below meth c 0 0 (MQ below (QI X 1 (bI r) N s.heap.size) args s 0 0 (AA X 1 s.heap.size)) 5 M 18 [(0, .ref (X.2.2 109)), (1, .int v1), (2, .int v2), (3, .int v3)] [.ref (X.2.2 109)] := by
  unfold f_X10_mark_J18 at he
  refine z_iconst (v := 1) S dX10_mark_18 (by decide) ?_
  refine z_goto (tgt := 23) S dX10_mark_19 (by decide) ?_
  exact p_X10_mark_J23 S  he
set_option maxRecDepth 100000 in
set_option maxHeartbeats 4000000 in
theorem K_X10_mark {X : Cx} {l : Launch} {M : Mm} {a1 : Int32} {a2 : Int32} {a3 : Int32} {r : Bool} {N : Mm}  (he : f_X10_mark M a1 a2 a3 = some (r, N)) : KI X 1 l yX10_mark (wz yX10_mark cX10_mark 5 (some .boolean)) rm_X10_mark [.ref (X.2.2 109), .int a1, .int a2, .int a3] M (bI r) N := by
  intro sz
  refine K_of (Qc := (fun sz => QI X 1 (bI r) N sz)) (own := RX10) (lv0 := [(0, .ref (X.2.2 109)), (1, .int a1), (2, .int a2), (3, .int a3)]) (by decide +kernel) rfl (Nat.le_of_ble_eq_true rfl) rfl (fun p e s m args below meth c S => ?_) sz
  · unfold f_X10_mark at he
    refine z_aload_n S dX10_mark_0 rfl 0 rfl ?_
    refine z_aload_n S dX10_mark_1 rfl 0 rfl ?_
    refine z_iload_n S dX10_mark_2 rfl 1 rfl ?_
    obtain ⟨r1, h9, he⟩ := bnd he
    refine z_cVI (As := [.int a1]) S cv_RX10_300 (K_X10_isVisitor  h9) ok_109 (by decide) (q := (RX10, TX10, 28)) rfl rfl ⟨rfl, rfl⟩ ⟨Nat.le_of_ble_eq_true rfl, Nat.le_of_ble_eq_true rfl⟩ ⟨Nat.le_refl _, Nat.le_refl _⟩ rfl rfl (Nat.le_of_ble_eq_true rfl) dX10_mark_3 ?_
    refine z_ifb_eq (tgt := 18) S he dX10_mark_6 (by decide) (fun he => ?_) (fun he => ?_)
    · exact p_X10_mark_J18 S  he
    · refine z_iload_n S dX10_mark_9 rfl 2 rfl ?_
      refine z_iconst (v := 0) S dX10_mark_10 (by decide) ?_
      refine z_iconst (v := 5) S dX10_mark_11 (by decide) ?_
      refine z_cSI (As := [.int a2, .int 0, .int 5]) S cs_RX10_66 (K_X10_isIn  rfl) ⟨rfl, rfl⟩ ⟨Nat.le_of_ble_eq_true rfl, Nat.le_of_ble_eq_true rfl⟩ ⟨Nat.le_refl _, Nat.le_refl _⟩ rfl rfl (Nat.le_of_ble_eq_true rfl) dX10_mark_12 ?_
      refine z_ifb_ne (tgt := 22) S he dX10_mark_15 (by decide) (fun he => ?_) (fun he => ?_)
      · refine z_iconst (v := 0) S dX10_mark_22 (by decide) ?_
        exact p_X10_mark_J23 S  he
      · exact p_X10_mark_J18 S  he
set_option maxRecDepth 100000 in
set_option maxHeartbeats 4000000 in
theorem p_X10_most_L13 {X : Cx} {p : Program} {l : Launch} {e : Env} {s : State} {m : MethodId} {args : Array Value} {below : List Frame} {meth : Method} {c : Code} (S : SB X 1 p s m args meth c cX10_most 3 (some .int) RX10) {M : Mm} {N : Mm} {r : Int32} {v1 : Int32} {v2 : Int32} {x : (Mm × Int32 × Int32) ⊕ (Mm × Int32)}  (he : f_X10_most_L13 M v1 v2 = some x) (hc : ∀ b, x = .inl b → Z X 1 p l e rm_X10_most s m args below meth c 0 0 (MQ below (QI X 1 r N s.heap.size) args s 0 0 (AA X 1 s.heap.size)) 3 b.1 13 [(0, .ref (X.2.2 109)), (1, .int b.2.1), (2, .int b.2.2)] []) (hx : ∀ b, x = .inr b → Z X 1 p l e rm_X10_most s m args below meth c 0 0 (MQ below (QI X 1 r N s.heap.size) args s 0 0 (AA X 1 s.heap.size)) 3 b.1 52 [(1, .int b.2)] []) : Z X 1 p l e rm_X10_most s m args below meth c 0 0 (MQ below (QI X 1 r N s.heap.size) args s 0 0 (AA X 1 s.heap.size)) 3 M 13 [(0, .ref (X.2.2 109)), (1, .int v1), (2, .int v2)] [] := by
  unfold f_X10_most_L13 at he
  refine z_iload_n S dX10_most_13 rfl 2 rfl ?_
  refine z_iconst (v := 1) S dX10_most_14 (by decide) ?_
  refine z_aload_n S dX10_most_15 rfl 0 rfl ?_
  refine z_getF (j := 110) S fo_RX10_7 1 rfl rfl ok_109 dX10_most_16 ?_
  refine z_iconst (v := 4) S dX10_most_19 (by decide) ?_
  refine z_iald S ok_110 rfl he dX10_most_20 (fun he => ?_)
  refine z_ishl S dX10_most_21 ?_
  refine z_icmp_ge (tgt := 52) S he dX10_most_22 (by decide) (fun he => ?_) (fun he => ?_)
  · refine z_lv (ks := [1]) rfl ?_
    exact hx _ (Option.some.inj he).symm
  · refine z_iload_n S dX10_most_25 rfl 2 rfl ?_
    obtain ⟨r3, h9, he⟩ := bnd he
    refine z_cSI (As := [.int v2]) S cs_RX10_321 (K_X10_bits  h9) ⟨rfl, rfl⟩ ⟨Nat.le_of_ble_eq_true rfl, Nat.le_of_ble_eq_true rfl⟩ ⟨Nat.le_refl _, Nat.le_refl _⟩ rfl rfl (Nat.le_of_ble_eq_true rfl) dX10_most_26 ?_
    refine z_iload_n S dX10_most_29 rfl 1 rfl ?_
    obtain ⟨r4, h9, he⟩ := bnd he
    refine z_cSI (As := [.int v1]) S cs_RX10_321 (K_X10_bits  h9) ⟨rfl, rfl⟩ ⟨Nat.le_of_ble_eq_true rfl, Nat.le_of_ble_eq_true rfl⟩ ⟨Nat.le_refl _, Nat.le_refl _⟩ rfl rfl (Nat.le_of_ble_eq_true rfl) dX10_most_30 ?_
    refine z_icmp_le (tgt := 46) S he dX10_most_33 (by decide) (fun he => ?_) (fun he => ?_)
    · refine z_iinc (v := (v2 + 1)) (lv' := [(0, .ref (X.2.2 109)), (1, .int v1), (2, .int (v2 + 1))]) S [1, 2, 0] 2 dX10_most_46 rfl (by rfl) (by decide) rfl ?_
      refine z_goto (tgt := 13) S dX10_most_49 (by decide) ?_
      refine z_lv (ks := [0, 1, 2]) rfl ?_
      exact hc _ (Option.some.inj he).symm
    · refine z_aload_n S dX10_most_36 rfl 0 rfl ?_
      refine z_iload_n S dX10_most_37 rfl 2 rfl ?_
      obtain ⟨⟨r5, M6⟩, h9, he⟩ := bnd he
      dsimp only at he
      refine z_cVI (As := [.int v2]) S cv_RX10_324 (K_X10_areHad  h9) ok_109 (by decide) (q := (RX10, TX10, 28)) rfl rfl ⟨rfl, rfl⟩ ⟨Nat.le_of_ble_eq_true rfl, Nat.le_of_ble_eq_true rfl⟩ ⟨Nat.le_refl _, Nat.le_refl _⟩ rfl rfl (Nat.le_of_ble_eq_true rfl) dX10_most_38 ?_
      refine z_ifb_eq (tgt := 46) S he dX10_most_41 (by decide) (fun he => ?_) (fun he => ?_)
      · refine z_iinc (v := (v2 + 1)) (lv' := [(0, .ref (X.2.2 109)), (1, .int v1), (2, .int (v2 + 1))]) S [1, 2, 0] 2 dX10_most_46 rfl (by rfl) (by decide) rfl ?_
        refine z_goto (tgt := 13) S dX10_most_49 (by decide) ?_
        refine z_lv (ks := [0, 1, 2]) rfl ?_
        exact hc _ (Option.some.inj he).symm
      · refine z_iload_n S dX10_most_44 rfl 2 rfl ?_
        refine z_istore_n (lv' := [(0, .ref (X.2.2 109)), (1, .int v2), (2, .int v2)]) S [1, 0, 2] dX10_most_45 rfl (by decide) rfl ?_
        refine z_iinc (v := (v2 + 1)) (lv' := [(0, .ref (X.2.2 109)), (1, .int v2), (2, .int (v2 + 1))]) S [1, 2, 0] 2 dX10_most_46 rfl (by rfl) (by decide) rfl ?_
        refine z_goto (tgt := 13) S dX10_most_49 (by decide) ?_
        refine z_lv (ks := [0, 1, 2]) rfl ?_
        exact hc _ (Option.some.inj he).symm
set_option maxRecDepth 100000 in
set_option maxHeartbeats 4000000 in
theorem K_X10_most {X : Cx} {l : Launch} {M : Mm} {r : Int32} {N : Mm}  (he : f_X10_most M  = some (r, N)) : KI X 1 l yX10_most (wz yX10_most cX10_most 3 (some .int)) rm_X10_most [.ref (X.2.2 109)] M r N := by
  intro sz
  refine K_of (Qc := (fun sz => QI X 1 r N sz)) (own := RX10) (lv0 := [(0, .ref (X.2.2 109))]) (by decide +kernel) rfl (Nat.le_of_ble_eq_true rfl) rfl (fun p e s m args below meth c S => ?_) sz
  · unfold f_X10_most at he
    refine z_aload_n S dX10_most_0 rfl 0 rfl ?_
    refine z_iconst (v := 0) S dX10_most_1 (by decide) ?_
    refine z_putIb S fo_RX10_63p rfl ok_109 rfl rfl he dX10_most_2 (fun M1 he => ?_)
    refine z_aload_n S dX10_most_5 rfl 0 rfl ?_
    obtain ⟨M2, h9, he⟩ := bnd he
    refine z_cVV (As := []) S cv_RX10_318 (K_X10_looks  h9) ok_109 (by decide) (q := (RX10, TX10, 28)) rfl rfl ⟨rfl, rfl⟩ ⟨Nat.le_of_ble_eq_true rfl, Nat.le_of_ble_eq_true rfl⟩ ⟨Nat.le_refl _, Nat.le_refl _⟩ rfl rfl (Nat.le_of_ble_eq_true rfl) dX10_most_6 ?_
    refine z_iconst (v := 0) S dX10_most_9 (by decide) ?_
    refine z_istore_n (lv' := [(0, .ref (X.2.2 109)), (1, .int 0)]) S [1, 0] dX10_most_10 rfl (by decide) rfl ?_
    refine z_iconst (v := 0) S dX10_most_11 (by decide) ?_
    refine z_istore_n (lv' := [(0, .ref (X.2.2 109)), (1, .int 0), (2, .int 0)]) S [1, 2, 0] dX10_most_12 rfl (by decide) rfl ?_
    obtain ⟨e_7, hl, he⟩ := bnd he
    have hX : Z X 1 p l e rm_X10_most s m args below meth c 0 0 (MQ below (QI X 1 r N s.heap.size) args s 0 0 (AA X 1 s.heap.size)) 3 e_7.1 52 [(1, .int e_7.2)] [] := by
      refine z_iload_n S dX10_most_52 rfl 0 rfl ?_
      exact z_iret S (Prod.mk.inj (Option.some.inj he)) dX10_most_53
    have hZ9 := loopZ (f := (fun a_7 => f_X10_most_L13 a_7.1 a_7.2.1 a_7.2.2)) (Zh := (fun a_7 => Z X 1 p l e rm_X10_most s m args below meth c 0 0 (MQ below (QI X 1 r N s.heap.size) args s 0 0 (AA X 1 s.heap.size)) 3 a_7.1 13 [(0, .ref (X.2.2 109)), (1, .int a_7.2.1), (2, .int a_7.2.2)] [])) (fun a_7 x hb hc hr => p_X10_most_L13 S  hb hc (fun b hxe => by rw [hr b hxe]; exact hX)) FU (M2, 0, 0) hl
    exact hZ9
set_option maxRecDepth 100000 in
set_option maxHeartbeats 4000000 in
theorem p_X10_move_J77 {X : Cx} {p : Program} {l : Launch} {e : Env} {s : State} {m : MethodId} {args : Array Value} {below : List Frame} {meth : Method} {c : Code} (S : SB X 1 p s m args meth c cX10_move 4 (some .int) RX10) {M : Mm} {N : Mm} {r : Int32} {v1 : Int32} {v2 : Int32} {v3 : Int32}  (he : f_X10_move_J77 M v1 v2 v3 = some (r, N)) : Z X 1 p l e rm_X10_move s m args below meth c 0 0 (MQ below (QI X 1 r N s.heap.size) args s 0 0 (AA X 1 s.heap.size)) 4 M 77 [(0, .ref (X.2.2 109)), (1, .int v1), (2, .int v2), (3, .int v3)] [] := by
  unfold f_X10_move_J77 at he
  refine z_aload_n S dX10_move_77 rfl 0 rfl ?_
  refine z_getF (j := 110) S fo_RX10_7 1 rfl rfl ok_109 dX10_move_78 ?_
  refine z_bipush (v := 12) S dX10_move_81 (by decide) ?_
  refine z_iconst (v := 5) S dX10_move_83 (by decide) ?_
  refine z_iload_n S dX10_move_84 rfl 1 rfl ?_
  refine z_imul S dX10_move_85 ?_
  refine z_iadd S dX10_move_86 ?_
  refine z_iconst (v := 0) S dX10_move_87 (by decide) ?_
  refine z_iadd S dX10_move_88 ?_
  refine z_iload_n S dX10_move_89 rfl 2 rfl ?_
  refine z_iastb S ok_110 rfl he dX10_move_90 (fun M5 he => ?_)
  refine z_iload_n S dX10_move_91 rfl 3 rfl ?_
  exact z_iret S (Prod.mk.inj (Option.some.inj he)) dX10_move_92
set_option maxRecDepth 100000 in
set_option maxHeartbeats 4000000 in
theorem p_X10_move_J24 {X : Cx} {p : Program} {l : Launch} {e : Env} {s : State} {m : MethodId} {args : Array Value} {below : List Frame} {meth : Method} {c : Code} (S : SB X 1 p s m args meth c cX10_move 4 (some .int) RX10) {M : Mm} {N : Mm} {r : Int32} {v1 : Int32} {v2 : Int32} {t0 : Int32}  (he : f_X10_move_J24 M v1 v2 t0 = some (r, N)) : Z X 1 p l e rm_X10_move s m args below meth c 0 0 (MQ below (QI X 1 r N s.heap.size) args s 0 0 (AA X 1 s.heap.size)) 4 M 24 [(0, .ref (X.2.2 109)), (1, .int v1), (2, .int v2)] [.int t0, .ref (X.2.2 109)] := by
  unfold f_X10_move_J24 at he
  refine z_putIb S fo_RX10_63p rfl ok_109 rfl rfl he dX10_move_24 (fun M2 he => ?_)
  refine z_aload_n S dX10_move_27 rfl 0 rfl ?_
  refine z_getI S fo_RX10_63 rfl ok_109 dX10_move_28 ?_
  refine z_if_le (tgt := 36) S he dX10_move_31 (by decide) (fun he => ?_) (fun he => ?_)
  · refine z_aload_n S dX10_move_36 rfl 0 rfl ?_
    obtain ⟨M3, h9, he⟩ := bnd he
    refine z_cVV (As := []) S cv_RX10_306 (K_X10_remembers  h9) ok_109 (by decide) (q := (RX10, TX10, 28)) rfl rfl ⟨rfl, rfl⟩ ⟨Nat.le_of_ble_eq_true rfl, Nat.le_of_ble_eq_true rfl⟩ ⟨Nat.le_refl _, Nat.le_refl _⟩ rfl rfl (Nat.le_of_ble_eq_true rfl) dX10_move_37 ?_
    refine z_aload_n S dX10_move_40 rfl 0 rfl ?_
    refine z_iload_n S dX10_move_41 rfl 2 rfl ?_
    obtain ⟨r4, h9, he⟩ := bnd he
    refine z_cVI (As := [.int v2]) S cv_RX10_122 (K_X10_thingAt  h9) ok_109 (by decide) (q := (RX10, TX10, 28)) rfl rfl ⟨rfl, rfl⟩ ⟨Nat.le_of_ble_eq_true rfl, Nat.le_of_ble_eq_true rfl⟩ ⟨Nat.le_refl _, Nat.le_refl _⟩ rfl rfl (Nat.le_of_ble_eq_true rfl) dX10_move_42 ?_
    refine z_istore_n (lv' := [(0, .ref (X.2.2 109)), (1, .int v1), (2, .int v2), (3, .int r4)]) S [1, 2, 3, 0] dX10_move_45 rfl (by decide) rfl ?_
    refine z_iload_n S dX10_move_46 rfl 3 rfl ?_
    refine z_iload_n S dX10_move_47 rfl 1 rfl ?_
    refine z_icmp_ne (tgt := 53) S he dX10_move_48 (by decide) (fun he => ?_) (fun he => ?_)
    · refine z_iload_n S dX10_move_53 rfl 3 rfl ?_
      refine z_iconst (v := (-1)) S dX10_move_54 (by decide) ?_
      refine z_icmp_eq (tgt := 77) S he dX10_move_55 (by decide) (fun he => ?_) (fun he => ?_)
      · exact p_X10_move_J77 S  he
      · refine z_aload_n S dX10_move_58 rfl 0 rfl ?_
        refine z_getF (j := 110) S fo_RX10_7 1 rfl rfl ok_109 dX10_move_59 ?_
        refine z_bipush (v := 12) S dX10_move_62 (by decide) ?_
        refine z_iconst (v := 5) S dX10_move_64 (by decide) ?_
        refine z_iload_n S dX10_move_65 rfl 3 rfl ?_
        refine z_imul S dX10_move_66 ?_
        refine z_iadd S dX10_move_67 ?_
        refine z_iconst (v := 0) S dX10_move_68 (by decide) ?_
        refine z_iadd S dX10_move_69 ?_
        refine z_aload_n S dX10_move_70 rfl 0 rfl ?_
        refine z_iload_n S dX10_move_71 rfl 1 rfl ?_
        refine z_iconst (v := 0) S dX10_move_72 (by decide) ?_
        obtain ⟨r6, h9, he⟩ := bnd he
        refine z_cVI (As := [.int v1, .int 0]) S cv_RX10_70 (K_X10_of  h9) ok_109 (by decide) (q := (RX10, TX10, 28)) rfl rfl ⟨rfl, rfl⟩ ⟨Nat.le_of_ble_eq_true rfl, Nat.le_of_ble_eq_true rfl⟩ ⟨Nat.le_refl _, Nat.le_refl _⟩ rfl rfl (Nat.le_of_ble_eq_true rfl) dX10_move_73 ?_
        refine z_iastb S ok_110 rfl he dX10_move_76 (fun M7 he => ?_)
        exact p_X10_move_J77 S  he
    · refine z_iconst (v := (-1)) S dX10_move_51 (by decide) ?_
      exact z_iret S (Prod.mk.inj (Option.some.inj he)) dX10_move_52
  · refine z_iconst (v := 0) S dX10_move_34 (by decide) ?_
    exact z_iret S (Prod.mk.inj (Option.some.inj he)) dX10_move_35
set_option maxRecDepth 100000 in
set_option maxHeartbeats 4000000 in
theorem p_X10_move_J19 {X : Cx} {p : Program} {l : Launch} {e : Env} {s : State} {m : MethodId} {args : Array Value} {below : List Frame} {meth : Method} {c : Code} (S : SB X 1 p s m args meth c cX10_move 4 (some .int) RX10) {M : Mm} {N : Mm} {r : Int32} {v1 : Int32} {v2 : Int32}  (he : f_X10_move_J19 M v1 v2 = some (r, N)) : Z X 1 p l e rm_X10_move s m args below meth c 0 0 (MQ below (QI X 1 r N s.heap.size) args s 0 0 (AA X 1 s.heap.size)) 4 M 19 [(0, .ref (X.2.2 109)), (1, .int v1), (2, .int v2)] [.ref (X.2.2 109)] := by
  unfold f_X10_move_J19 at he
  refine z_iconst (v := 1) S dX10_move_19 (by decide) ?_
  refine z_goto (tgt := 24) S dX10_move_20 (by decide) ?_
  exact p_X10_move_J24 S  he
set_option maxRecDepth 100000 in
set_option maxHeartbeats 4000000 in
theorem K_X10_move {X : Cx} {l : Launch} {M : Mm} {a1 : Int32} {a2 : Int32} {r : Int32} {N : Mm}  (he : f_X10_move M a1 a2 = some (r, N)) : KI X 1 l yX10_move (wz yX10_move cX10_move 4 (some .int)) rm_X10_move [.ref (X.2.2 109), .int a1, .int a2] M r N := by
  intro sz
  refine K_of (Qc := (fun sz => QI X 1 r N sz)) (own := RX10) (lv0 := [(0, .ref (X.2.2 109)), (1, .int a1), (2, .int a2)]) (by decide +kernel) rfl (Nat.le_of_ble_eq_true rfl) rfl (fun p e s m args below meth c S => ?_) sz
  · unfold f_X10_move at he
    refine z_aload_n S dX10_move_0 rfl 0 rfl ?_
    refine z_aload_n S dX10_move_1 rfl 0 rfl ?_
    refine z_iload_n S dX10_move_2 rfl 1 rfl ?_
    obtain ⟨r1, h9, he⟩ := bnd he
    refine z_cVI (As := [.int a1]) S cv_RX10_285 (K_X10_isThing  h9) ok_109 (by decide) (q := (RX10, TX10, 28)) rfl rfl ⟨rfl, rfl⟩ ⟨Nat.le_of_ble_eq_true rfl, Nat.le_of_ble_eq_true rfl⟩ ⟨Nat.le_refl _, Nat.le_refl _⟩ rfl rfl (Nat.le_of_ble_eq_true rfl) dX10_move_3 ?_
    refine z_ifb_eq (tgt := 19) S he dX10_move_6 (by decide) (fun he => ?_) (fun he => ?_)
    · exact p_X10_move_J19 S  he
    · refine z_iload_n S dX10_move_9 rfl 2 rfl ?_
      refine z_iconst (v := 0) S dX10_move_10 (by decide) ?_
      refine z_bipush (v := 19) S dX10_move_11 (by decide) ?_
      refine z_cSI (As := [.int a2, .int 0, .int 19]) S cs_RX10_66 (K_X10_isIn  rfl) ⟨rfl, rfl⟩ ⟨Nat.le_of_ble_eq_true rfl, Nat.le_of_ble_eq_true rfl⟩ ⟨Nat.le_refl _, Nat.le_refl _⟩ rfl rfl (Nat.le_of_ble_eq_true rfl) dX10_move_13 ?_
      refine z_ifb_ne (tgt := 23) S he dX10_move_16 (by decide) (fun he => ?_) (fun he => ?_)
      · refine z_iconst (v := 0) S dX10_move_23 (by decide) ?_
        exact p_X10_move_J24 S  he
      · exact p_X10_move_J19 S  he
set_option maxRecDepth 100000 in
set_option maxHeartbeats 4000000 in
theorem p_X10_right_L79 {X : Cx} {p : Program} {l : Launch} {e : Env} {s : State} {m : MethodId} {args : Array Value} {below : List Frame} {meth : Method} {c : Code} (S : SB X 1 p s m args meth c cX10_right 9 (some .int) RX10) {M : Mm} {N : Mm} {r : Int32} {v1 : Int32} {v2 : Int32} {v3 : Int32} {v4 : Int32} {v5 : Int32} {v6 : Int32} {v7 : Int32} {v8 : Int32} {x : (Int32 × Int32) ⊕ Int32}  (he : f_X10_right_L79 M v1 v2 v3 v4 v5 v6 v7 v8 = some x) (hc : ∀ b, x = .inl b → Z X 1 p l e rm_X10_right s m args below meth c 0 0 (MQ below (QI X 1 r N s.heap.size) args s 0 0 (AA X 1 s.heap.size)) 9 M 79 [(0, .ref (X.2.2 109)), (1, .int v1), (2, .int v2), (3, .int v3), (4, .int v4), (5, .int v5), (6, .int v6), (7, .int b.1), (8, .int b.2)] []) (hx : ∀ b, x = .inr b → Z X 1 p l e rm_X10_right s m args below meth c 0 0 (MQ below (QI X 1 r N s.heap.size) args s 0 0 (AA X 1 s.heap.size)) 9 M 128 [(0, .ref (X.2.2 109)), (1, .int v1), (2, .int v2), (3, .int v3), (4, .int v4), (5, .int v5), (6, .int v6), (7, .int b)] []) : Z X 1 p l e rm_X10_right s m args below meth c 0 0 (MQ below (QI X 1 r N s.heap.size) args s 0 0 (AA X 1 s.heap.size)) 9 M 79 [(0, .ref (X.2.2 109)), (1, .int v1), (2, .int v2), (3, .int v3), (4, .int v4), (5, .int v5), (6, .int v6), (7, .int v7), (8, .int v8)] [] := by
  unfold f_X10_right_L79 at he
  refine z_iload S dX10_right_79 8 rfl ?_
  refine z_aload_n S dX10_right_81 rfl 0 rfl ?_
  refine z_getF (j := 110) S fo_RX10_7 1 rfl rfl ok_109 dX10_right_82 ?_
  refine z_iconst (v := 4) S dX10_right_85 (by decide) ?_
  refine z_iald S ok_110 rfl he dX10_right_86 (fun he => ?_)
  refine z_icmp_ge (tgt := 128) S he dX10_right_87 (by decide) (fun he => ?_) (fun he => ?_)
  · refine z_lv (ks := [0, 1, 2, 3, 4, 5, 6, 7]) rfl ?_
    exact hx _ (Option.some.inj he).symm
  · refine z_iload S dX10_right_90 7 rfl ?_
    refine z_aload_n S dX10_right_92 rfl 0 rfl ?_
    refine z_getF (j := 117) S fo_RX10_35 8 rfl rfl ok_109 dX10_right_93 ?_
    refine z_iload S dX10_right_96 8 rfl ?_
    refine z_iald S ok_117 rfl he dX10_right_98 (fun he => ?_)
    refine z_iload_n S dX10_right_99 rfl 1 rfl ?_
    refine z_icmp_ne (tgt := 118) S he dX10_right_100 (by decide) (fun he => ?_) (fun he => ?_)
    · refine z_iconst (v := 0) S dX10_right_118 (by decide) ?_
      refine z_iadd S dX10_right_119 ?_
      refine z_istore (lv' := [(0, .ref (X.2.2 109)), (1, .int v1), (2, .int v2), (3, .int v3), (4, .int v4), (5, .int v5), (6, .int v6), (7, .int (v7 + 0)), (8, .int v8)]) S [1, 2, 3, 4, 5, 6, 7, 0, 8] dX10_right_120 (by decide) rfl ?_
      refine z_iinc (v := (v8 + 1)) (lv' := [(0, .ref (X.2.2 109)), (1, .int v1), (2, .int v2), (3, .int v3), (4, .int v4), (5, .int v5), (6, .int v6), (7, .int (v7 + 0)), (8, .int (v8 + 1))]) S [1, 2, 3, 4, 5, 6, 7, 8, 0] 8 dX10_right_122 rfl (by rfl) (by decide) rfl ?_
      refine z_goto (tgt := 79) S dX10_right_125 (by decide) ?_
      refine z_lv (ks := [0, 1, 2, 3, 4, 5, 6, 7, 8]) rfl ?_
      exact hc _ (Option.some.inj he).symm
    · refine z_aload_n S dX10_right_103 rfl 0 rfl ?_
      refine z_getF (j := 116) S fo_RX10_32 7 rfl rfl ok_109 dX10_right_104 ?_
      refine z_bipush (v := 10) S dX10_right_107 (by decide) ?_
      refine z_iload_n S dX10_right_109 rfl 1 rfl ?_
      refine z_imul S dX10_right_110 ?_
      refine z_iload S dX10_right_111 8 rfl ?_
      refine z_iadd S dX10_right_113 ?_
      refine z_iald S ok_116 rfl he dX10_right_114 (fun he => ?_)
      refine z_goto (tgt := 119) S dX10_right_115 (by decide) ?_
      refine z_iadd S dX10_right_119 ?_
      obtain ⟨x7, ex7, he⟩ := bnd he
      rw [Option.some.inj ex7]
      refine z_istore (lv' := [(0, .ref (X.2.2 109)), (1, .int v1), (2, .int v2), (3, .int v3), (4, .int v4), (5, .int v5), (6, .int v6), (7, .int x7), (8, .int v8)]) S [1, 2, 3, 4, 5, 6, 7, 0, 8] dX10_right_120 (by decide) rfl ?_
      refine z_iinc (v := (v8 + 1)) (lv' := [(0, .ref (X.2.2 109)), (1, .int v1), (2, .int v2), (3, .int v3), (4, .int v4), (5, .int v5), (6, .int v6), (7, .int x7), (8, .int (v8 + 1))]) S [1, 2, 3, 4, 5, 6, 7, 8, 0] 8 dX10_right_122 rfl (by rfl) (by decide) rfl ?_
      refine z_goto (tgt := 79) S dX10_right_125 (by decide) ?_
      refine z_lv (ks := [0, 1, 2, 3, 4, 5, 6, 7, 8]) rfl ?_
      exact hc _ (Option.some.inj he).symm
set_option maxRecDepth 100000 in
set_option maxHeartbeats 4000000 in
theorem p_X10_right_L46 {X : Cx} {p : Program} {l : Launch} {e : Env} {s : State} {m : MethodId} {args : Array Value} {below : List Frame} {meth : Method} {c : Code} (S : SB X 1 p s m args meth c cX10_right 9 (some .int) RX10) {M : Mm} {N : Mm} {r : Int32} {v1 : Int32} {v2 : Int32} {v3 : Int32} {v4 : Int32} {v5 : Int32} {v6 : Int32} {x : (Mm × Int32 × Int32 × Int32) ⊕ (Mm × Int32 × Int32)}  (he : f_X10_right_L46 M v1 v2 v3 v4 v5 v6 = some x) (hc : ∀ b, x = .inl b → Z X 1 p l e rm_X10_right s m args below meth c 0 0 (MQ below (QI X 1 r N s.heap.size) args s 0 0 (AA X 1 s.heap.size)) 9 b.1 46 [(0, .ref (X.2.2 109)), (1, .int v1), (2, .int v2), (3, .int v3), (4, .int b.2.1), (5, .int b.2.2.1), (6, .int b.2.2.2)] []) (hx : ∀ b, x = .inr b → Z X 1 p l e rm_X10_right s m args below meth c 0 0 (MQ below (QI X 1 r N s.heap.size) args s 0 0 (AA X 1 s.heap.size)) 9 b.1 152 [(0, .ref (X.2.2 109)), (1, .int v1), (2, .int v2), (3, .int v3), (4, .int b.2.1), (5, .int b.2.2)] []) : Z X 1 p l e rm_X10_right s m args below meth c 0 0 (MQ below (QI X 1 r N s.heap.size) args s 0 0 (AA X 1 s.heap.size)) 9 M 46 [(0, .ref (X.2.2 109)), (1, .int v1), (2, .int v2), (3, .int v3), (4, .int v4), (5, .int v5), (6, .int v6)] [] := by
  unfold f_X10_right_L46 at he
  refine z_iload S dX10_right_46 6 rfl ?_
  refine z_bipush (v := 99) S dX10_right_48 (by decide) ?_
  refine z_icmp_gt (tgt := 152) S he dX10_right_50 (by decide) (fun he => ?_) (fun he => ?_)
  · refine z_lv (ks := [0, 1, 2, 3, 4, 5]) rfl ?_
    exact hx _ (Option.some.inj he).symm
  · refine z_aload_n S dX10_right_53 rfl 0 rfl ?_
    refine z_getF (j := 110) S fo_RX10_7 1 rfl rfl ok_109 dX10_right_54 ?_
    refine z_bipush (v := 12) S dX10_right_57 (by decide) ?_
    refine z_iconst (v := 5) S dX10_right_59 (by decide) ?_
    refine z_iload_n S dX10_right_60 rfl 1 rfl ?_
    refine z_imul S dX10_right_61 ?_
    refine z_iadd S dX10_right_62 ?_
    refine z_iconst (v := 1) S dX10_right_63 (by decide) ?_
    refine z_iadd S dX10_right_64 ?_
    refine z_iload S dX10_right_65 6 rfl ?_
    refine z_iastb S ok_110 rfl he dX10_right_67 (fun M5 he => ?_)
    refine z_aload_n S dX10_right_68 rfl 0 rfl ?_
    refine z_iconst (v := 0) S dX10_right_69 (by decide) ?_
    obtain ⟨M6, h9, he⟩ := bnd he
    refine z_cVV (As := [.int 0]) S cv_RX10_275 (K_X10_leads  h9) ok_109 (by decide) (q := (RX10, TX10, 28)) rfl rfl ⟨rfl, rfl⟩ ⟨Nat.le_of_ble_eq_true rfl, Nat.le_of_ble_eq_true rfl⟩ ⟨Nat.le_refl _, Nat.le_refl _⟩ rfl rfl (Nat.le_of_ble_eq_true rfl) dX10_right_70 ?_
    refine z_iconst (v := 0) S dX10_right_73 (by decide) ?_
    refine z_istore (lv' := [(0, .ref (X.2.2 109)), (1, .int v1), (2, .int v2), (3, .int v3), (4, .int v4), (5, .int v5), (6, .int v6), (7, .int 0)]) S [1, 2, 3, 4, 5, 6, 7, 0] dX10_right_74 (by decide) rfl ?_
    refine z_iconst (v := 0) S dX10_right_76 (by decide) ?_
    refine z_istore (lv' := [(0, .ref (X.2.2 109)), (1, .int v1), (2, .int v2), (3, .int v3), (4, .int v4), (5, .int v5), (6, .int v6), (7, .int 0), (8, .int 0)]) S [1, 2, 3, 4, 5, 6, 7, 8, 0] dX10_right_77 (by decide) rfl ?_
    obtain ⟨e_8, hl, he⟩ := bnd he
    have hX : Z X 1 p l e rm_X10_right s m args below meth c 0 0 (MQ below (QI X 1 r N s.heap.size) args s 0 0 (AA X 1 s.heap.size)) 9 M6 128 [(0, .ref (X.2.2 109)), (1, .int v1), (2, .int v2), (3, .int v3), (4, .int v4), (5, .int v5), (6, .int v6), (7, .int e_8)] [] := by
      refine z_iload S dX10_right_128 7 rfl ?_
      refine z_iload S dX10_right_130 5 rfl ?_
      refine z_icmp_gt (tgt := 138) S he dX10_right_132 (by decide) (fun he => ?_) (fun he => ?_)
      · refine z_iload S dX10_right_138 7 rfl ?_
        refine z_istore (lv' := [(0, .ref (X.2.2 109)), (1, .int v1), (2, .int v2), (3, .int v3), (5, .int e_8), (6, .int v6)]) S [1, 2, 3, 4, 0, 6] dX10_right_140 (by decide) rfl ?_
        refine z_iload S dX10_right_142 5 rfl ?_
        refine z_istore (lv' := [(0, .ref (X.2.2 109)), (1, .int v1), (2, .int v2), (3, .int v3), (4, .int v6), (5, .int e_8), (6, .int v6)]) S [1, 2, 3, 4, 0, 5, 6] dX10_right_144 (by decide) rfl ?_
        refine z_iinc (v := (v6 + 1)) (lv' := [(0, .ref (X.2.2 109)), (1, .int v1), (2, .int v2), (3, .int v3), (4, .int v6), (5, .int e_8), (6, .int (v6 + 1))]) S [1, 2, 3, 4, 5, 6, 0] 6 dX10_right_146 rfl (by rfl) (by decide) rfl ?_
        refine z_goto (tgt := 46) S dX10_right_149 (by decide) ?_
        refine z_lv (ks := [0, 1, 2, 3, 4, 5, 6]) rfl ?_
        exact hc _ (Option.some.inj he).symm
      · refine z_goto (tgt := 146) S dX10_right_135 (by decide) ?_
        refine z_iinc (v := (v6 + 1)) (lv' := [(0, .ref (X.2.2 109)), (1, .int v1), (2, .int v2), (3, .int v3), (4, .int v4), (5, .int v5), (6, .int (v6 + 1)), (7, .int e_8)]) S [1, 2, 3, 4, 5, 6, 0, 7] 6 dX10_right_146 rfl (by rfl) (by decide) rfl ?_
        refine z_goto (tgt := 46) S dX10_right_149 (by decide) ?_
        refine z_lv (ks := [0, 1, 2, 3, 4, 5, 6]) rfl ?_
        exact hc _ (Option.some.inj he).symm
    have hZ9 := loopZ (f := (fun a_8 => f_X10_right_L79 M6 v1 v2 v3 v4 v5 v6 a_8.1 a_8.2)) (Zh := (fun a_8 => Z X 1 p l e rm_X10_right s m args below meth c 0 0 (MQ below (QI X 1 r N s.heap.size) args s 0 0 (AA X 1 s.heap.size)) 9 M6 79 [(0, .ref (X.2.2 109)), (1, .int v1), (2, .int v2), (3, .int v3), (4, .int v4), (5, .int v5), (6, .int v6), (7, .int a_8.1), (8, .int a_8.2)] [])) (fun a_8 x hb hc hr => p_X10_right_L79 S  hb hc (fun b hxe => by rw [hr b hxe]; exact hX)) FU (0, 0) hl
    exact hZ9
set_option maxRecDepth 100000 in
set_option maxHeartbeats 4000000 in
theorem p_X10_right_J14 {X : Cx} {p : Program} {l : Launch} {e : Env} {s : State} {m : MethodId} {args : Array Value} {below : List Frame} {meth : Method} {c : Code} (S : SB X 1 p s m args meth c cX10_right 9 (some .int) RX10) {M : Mm} {N : Mm} {r : Int32} {v1 : Int32} {v2 : Int32} {t0 : Int32}  (he : f_X10_right_J14 M v1 v2 t0 = some (r, N)) : Z X 1 p l e rm_X10_right s m args below meth c 0 0 (MQ below (QI X 1 r N s.heap.size) args s 0 0 (AA X 1 s.heap.size)) 9 M 14 [(0, .ref (X.2.2 109)), (1, .int v1), (2, .int v2)] [.int t0, .ref (X.2.2 109)] := by
  unfold f_X10_right_J14 at he
  refine z_putIb S fo_RX10_63p rfl ok_109 rfl rfl he dX10_right_14 (fun M2 he => ?_)
  refine z_aload_n S dX10_right_17 rfl 0 rfl ?_
  refine z_getI S fo_RX10_63 rfl ok_109 dX10_right_18 ?_
  refine z_if_le (tgt := 26) S he dX10_right_21 (by decide) (fun he => ?_) (fun he => ?_)
  · refine z_aload_n S dX10_right_26 rfl 0 rfl ?_
    refine z_iload_n S dX10_right_27 rfl 1 rfl ?_
    refine z_iconst (v := 1) S dX10_right_28 (by decide) ?_
    obtain ⟨r3, h9, he⟩ := bnd he
    refine z_cVI (As := [.int v1, .int 1]) S cv_RX10_70 (K_X10_of  h9) ok_109 (by decide) (q := (RX10, TX10, 28)) rfl rfl ⟨rfl, rfl⟩ ⟨Nat.le_of_ble_eq_true rfl, Nat.le_of_ble_eq_true rfl⟩ ⟨Nat.le_refl _, Nat.le_refl _⟩ rfl rfl (Nat.le_of_ble_eq_true rfl) dX10_right_29 ?_
    refine z_istore_n (lv' := [(0, .ref (X.2.2 109)), (1, .int v1), (2, .int v2), (3, .int r3)]) S [1, 2, 3, 0] dX10_right_32 rfl (by decide) rfl ?_
    refine z_aload_n S dX10_right_33 rfl 0 rfl ?_
    obtain ⟨M4, h9, he⟩ := bnd he
    refine z_cVV (As := []) S cv_RX10_272 (K_X10_asks  h9) ok_109 (by decide) (q := (RX10, TX10, 28)) rfl rfl ⟨rfl, rfl⟩ ⟨Nat.le_of_ble_eq_true rfl, Nat.le_of_ble_eq_true rfl⟩ ⟨Nat.le_refl _, Nat.le_refl _⟩ rfl rfl (Nat.le_of_ble_eq_true rfl) dX10_right_34 ?_
    refine z_iconst (v := 0) S dX10_right_37 (by decide) ?_
    refine z_istore (lv' := [(0, .ref (X.2.2 109)), (1, .int v1), (2, .int v2), (3, .int r3), (4, .int 0)]) S [1, 2, 3, 4, 0] dX10_right_38 (by decide) rfl ?_
    refine z_iconst (v := (-1)) S dX10_right_40 (by decide) ?_
    refine z_istore (lv' := [(0, .ref (X.2.2 109)), (1, .int v1), (2, .int v2), (3, .int r3), (4, .int 0), (5, .int (-1))]) S [1, 2, 3, 4, 5, 0] dX10_right_41 (by decide) rfl ?_
    refine z_iconst (v := 0) S dX10_right_43 (by decide) ?_
    refine z_istore (lv' := [(0, .ref (X.2.2 109)), (1, .int v1), (2, .int v2), (3, .int r3), (4, .int 0), (5, .int (-1)), (6, .int 0)]) S [1, 2, 3, 4, 5, 6, 0] dX10_right_44 (by decide) rfl ?_
    obtain ⟨e_9, hl, he⟩ := bnd he
    have hX : Z X 1 p l e rm_X10_right s m args below meth c 0 0 (MQ below (QI X 1 r N s.heap.size) args s 0 0 (AA X 1 s.heap.size)) 9 e_9.1 152 [(0, .ref (X.2.2 109)), (1, .int v1), (2, .int v2), (3, .int r3), (4, .int e_9.2.1), (5, .int e_9.2.2)] [] := by
      refine z_aload_n S dX10_right_152 rfl 0 rfl ?_
      refine z_getF (j := 110) S fo_RX10_7 1 rfl rfl ok_109 dX10_right_153 ?_
      refine z_bipush (v := 12) S dX10_right_156 (by decide) ?_
      refine z_iconst (v := 5) S dX10_right_158 (by decide) ?_
      refine z_iload_n S dX10_right_159 rfl 1 rfl ?_
      refine z_imul S dX10_right_160 ?_
      refine z_iadd S dX10_right_161 ?_
      refine z_iconst (v := 1) S dX10_right_162 (by decide) ?_
      refine z_iadd S dX10_right_163 ?_
      refine z_iload_n S dX10_right_164 rfl 3 rfl ?_
      refine z_iastb S ok_110 rfl he dX10_right_165 (fun M10 he => ?_)
      refine z_iload_n S dX10_right_166 rfl 2 rfl ?_
      refine z_if_eq (tgt := 175) S he dX10_right_167 (by decide) (fun he => ?_) (fun he => ?_)
      · refine z_iload S dX10_right_175 4 rfl ?_
        exact z_iret S (Prod.mk.inj (Option.some.inj he)) dX10_right_177
      · refine z_iload S dX10_right_170 5 rfl ?_
        refine z_goto (tgt := 177) S dX10_right_172 (by decide) ?_
        exact z_iret S (Prod.mk.inj (Option.some.inj he)) dX10_right_177
    have hZ9 := loopZ (f := (fun a_9 => f_X10_right_L46 a_9.1 v1 v2 r3 a_9.2.1 a_9.2.2.1 a_9.2.2.2)) (Zh := (fun a_9 => Z X 1 p l e rm_X10_right s m args below meth c 0 0 (MQ below (QI X 1 r N s.heap.size) args s 0 0 (AA X 1 s.heap.size)) 9 a_9.1 46 [(0, .ref (X.2.2 109)), (1, .int v1), (2, .int v2), (3, .int r3), (4, .int a_9.2.1), (5, .int a_9.2.2.1), (6, .int a_9.2.2.2)] [])) (fun a_9 x hb hc hr => p_X10_right_L46 S  hb hc (fun b hxe => by rw [hr b hxe]; exact hX)) FU (M4, 0, (-1), 0) hl
    exact hZ9
  · refine z_iconst (v := 0) S dX10_right_24 (by decide) ?_
    exact z_iret S (Prod.mk.inj (Option.some.inj he)) dX10_right_25
set_option maxRecDepth 100000 in
set_option maxHeartbeats 4000000 in
theorem K_X10_right {X : Cx} {l : Launch} {M : Mm} {a1 : Int32} {a2 : Int32} {r : Int32} {N : Mm}  (he : f_X10_right M a1 a2 = some (r, N)) : KI X 1 l yX10_right (wz yX10_right cX10_right 9 (some .int)) rm_X10_right [.ref (X.2.2 109), .int a1, .int a2] M r N := by
  intro sz
  refine K_of (Qc := (fun sz => QI X 1 r N sz)) (own := RX10) (lv0 := [(0, .ref (X.2.2 109)), (1, .int a1), (2, .int a2)]) (by decide +kernel) rfl (Nat.le_of_ble_eq_true rfl) rfl (fun p e s m args below meth c S => ?_) sz
  · unfold f_X10_right at he
    refine z_aload_n S dX10_right_0 rfl 0 rfl ?_
    refine z_aload_n S dX10_right_1 rfl 0 rfl ?_
    refine z_iload_n S dX10_right_2 rfl 1 rfl ?_
    obtain ⟨r1, h9, he⟩ := bnd he
    refine z_cVI (As := [.int a1]) S cv_RX10_285 (K_X10_isThing  h9) ok_109 (by decide) (q := (RX10, TX10, 28)) rfl rfl ⟨rfl, rfl⟩ ⟨Nat.le_of_ble_eq_true rfl, Nat.le_of_ble_eq_true rfl⟩ ⟨Nat.le_refl _, Nat.le_refl _⟩ rfl rfl (Nat.le_of_ble_eq_true rfl) dX10_right_3 ?_
    refine z_ifb_ne (tgt := 13) S he dX10_right_6 (by decide) (fun he => ?_) (fun he => ?_)
    · refine z_iconst (v := 0) S dX10_right_13 (by decide) ?_
      exact p_X10_right_J14 S  he
    · refine z_iconst (v := 1) S dX10_right_9 (by decide) ?_
      refine z_goto (tgt := 14) S dX10_right_10 (by decide) ?_
      exact p_X10_right_J14 S  he
set_option maxRecDepth 100000 in
set_option maxHeartbeats 4000000 in
theorem p_X10_rivals_J31 {X : Cx} {p : Program} {l : Launch} {e : Env} {s : State} {m : MethodId} {args : Array Value} {below : List Frame} {meth : Method} {c : Code} (S : SB X 1 p s m args meth c cX10_rivals 3 (some .int) RX10) {M : Mm} {N : Mm} {r : Int32} {v1 : Int32} {v2 : Int32} {t0 : Int32}  (he : f_X10_rivals_J31 M v1 v2 t0 = some (r, N)) : Z X 1 p l e rm_X10_rivals s m args below meth c 0 0 (MQ below (QI X 1 r N s.heap.size) args s 0 0 (AA X 1 s.heap.size)) 3 M 31 [(0, .ref (X.2.2 109)), (1, .int v1), (2, .int v2)] [.int t0, .ref (X.2.2 109)] := by
  unfold f_X10_rivals_J31 at he
  refine z_putIb S fo_RX10_63p rfl ok_109 rfl rfl he dX10_rivals_31 (fun M2 he => ?_)
  refine z_aload_n S dX10_rivals_34 rfl 0 rfl ?_
  refine z_getI S fo_RX10_63 rfl ok_109 dX10_rivals_35 ?_
  refine z_if_le (tgt := 43) S he dX10_rivals_38 (by decide) (fun he => ?_) (fun he => ?_)
  · refine z_aload_n S dX10_rivals_43 rfl 0 rfl ?_
    obtain ⟨M3, h9, he⟩ := bnd he
    refine z_cVV (As := []) S cv_RX10_272 (K_X10_asks  h9) ok_109 (by decide) (q := (RX10, TX10, 28)) rfl rfl ⟨rfl, rfl⟩ ⟨Nat.le_of_ble_eq_true rfl, Nat.le_of_ble_eq_true rfl⟩ ⟨Nat.le_refl _, Nat.le_refl _⟩ rfl rfl (Nat.le_of_ble_eq_true rfl) dX10_rivals_44 ?_
    refine z_aload_n S dX10_rivals_47 rfl 0 rfl ?_
    refine z_iload_n S dX10_rivals_48 rfl 1 rfl ?_
    obtain ⟨r4, h9, he⟩ := bnd he
    refine z_cVI (As := [.int v1]) S cv_RX10_291 (K_X10_ringsFor  h9) ok_109 (by decide) (q := (RX10, TX10, 28)) rfl rfl ⟨rfl, rfl⟩ ⟨Nat.le_of_ble_eq_true rfl, Nat.le_of_ble_eq_true rfl⟩ ⟨Nat.le_refl _, Nat.le_refl _⟩ rfl rfl (Nat.le_of_ble_eq_true rfl) dX10_rivals_49 ?_
    refine z_aload_n S dX10_rivals_52 rfl 0 rfl ?_
    refine z_iload_n S dX10_rivals_53 rfl 2 rfl ?_
    obtain ⟨r5, h9, he⟩ := bnd he
    refine z_cVI (As := [.int v2]) S cv_RX10_291 (K_X10_ringsFor  h9) ok_109 (by decide) (q := (RX10, TX10, 28)) rfl rfl ⟨rfl, rfl⟩ ⟨Nat.le_of_ble_eq_true rfl, Nat.le_of_ble_eq_true rfl⟩ ⟨Nat.le_refl _, Nat.le_refl _⟩ rfl rfl (Nat.le_of_ble_eq_true rfl) dX10_rivals_54 ?_
    refine z_iand S dX10_rivals_57 ?_
    exact z_iret S (Prod.mk.inj (Option.some.inj he)) dX10_rivals_58
  · refine z_iconst (v := 0) S dX10_rivals_41 (by decide) ?_
    exact z_iret S (Prod.mk.inj (Option.some.inj he)) dX10_rivals_42
set_option maxRecDepth 100000 in
set_option maxHeartbeats 4000000 in
theorem p_X10_rivals_J17 {X : Cx} {p : Program} {l : Launch} {e : Env} {s : State} {m : MethodId} {args : Array Value} {below : List Frame} {meth : Method} {c : Code} (S : SB X 1 p s m args meth c cX10_rivals 3 (some .int) RX10) {M : Mm} {N : Mm} {r : Int32} {v1 : Int32} {v2 : Int32}  (he : f_X10_rivals_J17 M v1 v2 = some (r, N)) : Z X 1 p l e rm_X10_rivals s m args below meth c 0 0 (MQ below (QI X 1 r N s.heap.size) args s 0 0 (AA X 1 s.heap.size)) 3 M 17 [(0, .ref (X.2.2 109)), (1, .int v1), (2, .int v2)] [.ref (X.2.2 109)] := by
  unfold f_X10_rivals_J17 at he
  refine z_iconst (v := 1) S dX10_rivals_17 (by decide) ?_
  refine z_goto (tgt := 31) S dX10_rivals_18 (by decide) ?_
  exact p_X10_rivals_J31 S  he
set_option maxRecDepth 100000 in
set_option maxHeartbeats 4000000 in
theorem K_X10_rivals {X : Cx} {l : Launch} {M : Mm} {a1 : Int32} {a2 : Int32} {r : Int32} {N : Mm}  (he : f_X10_rivals M a1 a2 = some (r, N)) : KI X 1 l yX10_rivals (wz yX10_rivals cX10_rivals 3 (some .int)) rm_X10_rivals [.ref (X.2.2 109), .int a1, .int a2] M r N := by
  intro sz
  refine K_of (Qc := (fun sz => QI X 1 r N sz)) (own := RX10) (lv0 := [(0, .ref (X.2.2 109)), (1, .int a1), (2, .int a2)]) (by decide +kernel) rfl (Nat.le_of_ble_eq_true rfl) rfl (fun p e s m args below meth c S => ?_) sz
  · unfold f_X10_rivals at he
    refine z_aload_n S dX10_rivals_0 rfl 0 rfl ?_
    refine z_aload_n S dX10_rivals_1 rfl 0 rfl ?_
    refine z_iload_n S dX10_rivals_2 rfl 1 rfl ?_
    obtain ⟨r1, h9, he⟩ := bnd he
    refine z_cVI (As := [.int a1]) S cv_RX10_285 (K_X10_isThing  h9) ok_109 (by decide) (q := (RX10, TX10, 28)) rfl rfl ⟨rfl, rfl⟩ ⟨Nat.le_of_ble_eq_true rfl, Nat.le_of_ble_eq_true rfl⟩ ⟨Nat.le_refl _, Nat.le_refl _⟩ rfl rfl (Nat.le_of_ble_eq_true rfl) dX10_rivals_3 ?_
    refine z_ifb_eq (tgt := 17) S he dX10_rivals_6 (by decide) (fun he => ?_) (fun he => ?_)
    · exact p_X10_rivals_J17 S  he
    · refine z_aload_n S dX10_rivals_9 rfl 0 rfl ?_
      refine z_iload_n S dX10_rivals_10 rfl 2 rfl ?_
      obtain ⟨r6, h9, he⟩ := bnd he
      refine z_cVI (As := [.int a2]) S cv_RX10_285 (K_X10_isThing  h9) ok_109 (by decide) (q := (RX10, TX10, 28)) rfl rfl ⟨rfl, rfl⟩ ⟨Nat.le_of_ble_eq_true rfl, Nat.le_of_ble_eq_true rfl⟩ ⟨Nat.le_refl _, Nat.le_refl _⟩ rfl rfl (Nat.le_of_ble_eq_true rfl) dX10_rivals_11 ?_
      refine z_ifb_ne (tgt := 21) S he dX10_rivals_14 (by decide) (fun he => ?_) (fun he => ?_)
      · refine z_iload_n S dX10_rivals_21 rfl 1 rfl ?_
        refine z_iload_n S dX10_rivals_22 rfl 2 rfl ?_
        refine z_icmp_ne (tgt := 30) S he dX10_rivals_23 (by decide) (fun he => ?_) (fun he => ?_)
        · refine z_iconst (v := 0) S dX10_rivals_30 (by decide) ?_
          exact p_X10_rivals_J31 S  he
        · refine z_iconst (v := 2) S dX10_rivals_26 (by decide) ?_
          refine z_goto (tgt := 31) S dX10_rivals_27 (by decide) ?_
          exact p_X10_rivals_J31 S  he
      · exact p_X10_rivals_J17 S  he
set_option maxRecDepth 100000 in
set_option maxHeartbeats 4000000 in
theorem K_X10_seed {X : Cx} {l : Launch} {M : Mm} {a1 : Int32} {r : Int32} {N : Mm}  (he : f_X10_seed M a1 = some (r, N)) : KI X 1 l yX10_seed (wz yX10_seed cX10_seed 3 (some .int)) rm_X10_seed [.ref (X.2.2 109), .int a1] M r N := by
  intro sz
  refine K_of (Qc := (fun sz => QI X 1 r N sz)) (own := RX10) (lv0 := [(0, .ref (X.2.2 109)), (1, .int a1)]) (by decide +kernel) rfl (Nat.le_of_ble_eq_true rfl) rfl (fun p e s m args below meth c S => ?_) sz
  · unfold f_X10_seed at he
    refine z_aload_n S dX10_seed_0 rfl 0 rfl ?_
    refine z_iconst (v := 0) S dX10_seed_1 (by decide) ?_
    refine z_putIb S fo_RX10_63p rfl ok_109 rfl rfl he dX10_seed_2 (fun M1 he => ?_)
    refine z_aload_n S dX10_seed_5 rfl 0 rfl ?_
    refine z_getF (j := 110) S fo_RX10_7 1 rfl rfl ok_109 dX10_seed_6 ?_
    refine z_bipush (v := 9) S dX10_seed_9 (by decide) ?_
    refine z_iald S ok_110 rfl he dX10_seed_11 (fun he => ?_)
    refine z_istore_n (lv' := [(0, .ref (X.2.2 109)), (1, .int a1), (2, .int (gA M1 110 9))]) S [1, 2, 0] dX10_seed_12 rfl (by decide) rfl ?_
    refine z_aload_n S dX10_seed_13 rfl 0 rfl ?_
    refine z_getF (j := 110) S fo_RX10_7 1 rfl rfl ok_109 dX10_seed_14 ?_
    refine z_bipush (v := 9) S dX10_seed_17 (by decide) ?_
    refine z_iload_n S dX10_seed_19 rfl 1 rfl ?_
    refine z_iastb S ok_110 rfl he dX10_seed_20 (fun M2 he => ?_)
    refine z_iload_n S dX10_seed_21 rfl 2 rfl ?_
    exact z_iret S (Prod.mk.inj (Option.some.inj he)) dX10_seed_22
set_option maxRecDepth 100000 in
set_option maxHeartbeats 4000000 in
theorem p_X10_wanted_J30_61 {X : Cx} {p : Program} {l : Launch} {e : Env} {s : State} {m : MethodId} {args : Array Value} {below : List Frame} {meth : Method} {c : Code} (S : SB X 1 p s m args meth c cX10_wanted 6 (some .int) RX10) {M : Mm} {N : Mm} {r : Int32} {v1 : Int32} {v3 : Int32} {t0 : Int32} {t1 : Int32} {x : (Int32 × Int32) ⊕ Int32}  (he : f_X10_wanted_J30_61 M v1 v3 t0 t1 = some x) (hc : ∀ b, x = .inl b → Z X 1 p l e rm_X10_wanted s m args below meth c 0 0 (MQ below (QI X 1 r N s.heap.size) args s 0 0 (AA X 1 s.heap.size)) 6 M 30 [(0, .ref (X.2.2 109)), (1, .int v1), (2, .int b.1), (3, .int b.2)] []) (hx : ∀ b, x = .inr b → Z X 1 p l e rm_X10_wanted s m args below meth c 0 0 (MQ below (QI X 1 r N s.heap.size) args s 0 0 (AA X 1 s.heap.size)) 6 M 76 [(0, .ref (X.2.2 109)), (1, .int v1), (2, .int b)] []) : Z X 1 p l e rm_X10_wanted s m args below meth c 0 0 (MQ below (QI X 1 r N s.heap.size) args s 0 0 (AA X 1 s.heap.size)) 6 M 61 [(0, .ref (X.2.2 109)), (1, .int v1), (3, .int v3)] [.int t0, .int t1] := by
  unfold f_X10_wanted_J30_61 at he
  refine z_icmp_ge (tgt := 68) S he dX10_wanted_61 (by decide) (fun he => ?_) (fun he => ?_)
  · refine z_iconst (v := 0) S dX10_wanted_68 (by decide) ?_
    refine z_istore_n (lv' := [(0, .ref (X.2.2 109)), (1, .int v1), (2, .int 0), (3, .int v3)]) S [1, 2, 0, 3] dX10_wanted_69 rfl (by decide) rfl ?_
    refine z_iinc (v := (v3 + 1)) (lv' := [(0, .ref (X.2.2 109)), (1, .int v1), (2, .int 0), (3, .int (v3 + 1))]) S [1, 2, 3, 0] 3 dX10_wanted_70 rfl (by rfl) (by decide) rfl ?_
    refine z_goto (tgt := 30) S dX10_wanted_73 (by decide) ?_
    refine z_lv (ks := [0, 1, 2, 3]) rfl ?_
    exact hc _ (Option.some.inj he).symm
  · refine z_iconst (v := 1) S dX10_wanted_64 (by decide) ?_
    refine z_goto (tgt := 69) S dX10_wanted_65 (by decide) ?_
    refine z_istore_n (lv' := [(0, .ref (X.2.2 109)), (1, .int v1), (2, .int 1), (3, .int v3)]) S [1, 2, 0, 3] dX10_wanted_69 rfl (by decide) rfl ?_
    refine z_iinc (v := (v3 + 1)) (lv' := [(0, .ref (X.2.2 109)), (1, .int v1), (2, .int 1), (3, .int (v3 + 1))]) S [1, 2, 3, 0] 3 dX10_wanted_70 rfl (by rfl) (by decide) rfl ?_
    refine z_goto (tgt := 30) S dX10_wanted_73 (by decide) ?_
    refine z_lv (ks := [0, 1, 2, 3]) rfl ?_
    exact hc _ (Option.some.inj he).symm
set_option maxRecDepth 100000 in
set_option maxHeartbeats 4000000 in
theorem p_X10_wanted_L30 {X : Cx} {p : Program} {l : Launch} {e : Env} {s : State} {m : MethodId} {args : Array Value} {below : List Frame} {meth : Method} {c : Code} (S : SB X 1 p s m args meth c cX10_wanted 6 (some .int) RX10) {M : Mm} {N : Mm} {r : Int32} {v1 : Int32} {v2 : Int32} {v3 : Int32} {x : (Int32 × Int32) ⊕ Int32}  (he : f_X10_wanted_L30 M v1 v2 v3 = some x) (hc : ∀ b, x = .inl b → Z X 1 p l e rm_X10_wanted s m args below meth c 0 0 (MQ below (QI X 1 r N s.heap.size) args s 0 0 (AA X 1 s.heap.size)) 6 M 30 [(0, .ref (X.2.2 109)), (1, .int v1), (2, .int b.1), (3, .int b.2)] []) (hx : ∀ b, x = .inr b → Z X 1 p l e rm_X10_wanted s m args below meth c 0 0 (MQ below (QI X 1 r N s.heap.size) args s 0 0 (AA X 1 s.heap.size)) 6 M 76 [(0, .ref (X.2.2 109)), (1, .int v1), (2, .int b)] []) : Z X 1 p l e rm_X10_wanted s m args below meth c 0 0 (MQ below (QI X 1 r N s.heap.size) args s 0 0 (AA X 1 s.heap.size)) 6 M 30 [(0, .ref (X.2.2 109)), (1, .int v1), (2, .int v2), (3, .int v3)] [] := by
  unfold f_X10_wanted_L30 at he
  refine z_iload_n S dX10_wanted_30 rfl 3 rfl ?_
  refine z_iload_n S dX10_wanted_31 rfl 1 rfl ?_
  refine z_icmp_ge (tgt := 76) S he dX10_wanted_32 (by decide) (fun he => ?_) (fun he => ?_)
  · refine z_lv (ks := [0, 1, 2]) rfl ?_
    exact hx _ (Option.some.inj he).symm
  · refine z_iload_n S dX10_wanted_35 rfl 2 rfl ?_
    refine z_if_eq (tgt := 76) S he dX10_wanted_36 (by decide) (fun he => ?_) (fun he => ?_)
    · refine z_lv (ks := [0, 1, 2]) rfl ?_
      exact hx _ (Option.some.inj he).symm
    · refine z_aload_n S dX10_wanted_39 rfl 0 rfl ?_
      refine z_getF (j := 114) S fo_RX10_22 5 rfl rfl ok_109 dX10_wanted_40 ?_
      refine z_iload_n S dX10_wanted_43 rfl 3 rfl ?_
      refine z_iald S ok_114 rfl he dX10_wanted_44 (fun he => ?_)
      refine z_iload_n S dX10_wanted_45 rfl 3 rfl ?_
      refine z_iconst (v := 2) S dX10_wanted_46 (by decide) ?_
      refine z_irem S (by decide) dX10_wanted_47 ?_
      refine z_if_ne (tgt := 60) S he dX10_wanted_48 (by decide) (fun he => ?_) (fun he => ?_)
      · refine z_iconst (v := 2) S dX10_wanted_60 (by decide) ?_
        refine z_lv (ks := [0, 1, 3]) rfl ?_
        exact p_X10_wanted_J30_61 S  he hc hx
      · refine z_aload_n S dX10_wanted_51 rfl 0 rfl ?_
        refine z_getF (j := 110) S fo_RX10_7 1 rfl rfl ok_109 dX10_wanted_52 ?_
        refine z_iconst (v := 4) S dX10_wanted_55 (by decide) ?_
        refine z_iald S ok_110 rfl he dX10_wanted_56 (fun he => ?_)
        refine z_goto (tgt := 61) S dX10_wanted_57 (by decide) ?_
        refine z_lv (ks := [0, 1, 3]) rfl ?_
        exact p_X10_wanted_J30_61 S  he hc hx
set_option maxRecDepth 100000 in
set_option maxHeartbeats 4000000 in
theorem p_X10_wanted_J105_178 {X : Cx} {p : Program} {l : Launch} {e : Env} {s : State} {m : MethodId} {args : Array Value} {below : List Frame} {meth : Method} {c : Code} (S : SB X 1 p s m args meth c cX10_wanted 6 (some .int) RX10) {M : Mm} {N : Mm} {r : Int32} {v1 : Int32} {v3 : Int32} {v4 : Int32} {v5 : Int32} {t0 : Int32} {t1 : Int32} {x : (Mm × Int32) ⊕ Mm}  (he : f_X10_wanted_J105_178 M v1 v3 v4 v5 t0 t1 = some x) (hc : ∀ b, x = .inl b → Z X 1 p l e rm_X10_wanted s m args below meth c 0 0 (MQ below (QI X 1 r N s.heap.size) args s 0 0 (AA X 1 s.heap.size)) 6 b.1 105 [(0, .ref (X.2.2 109)), (1, .int v1), (3, .int v3), (4, .int v4), (5, .int b.2)] []) (hx : ∀ b, x = .inr b → Z X 1 p l e rm_X10_wanted s m args below meth c 0 0 (MQ below (QI X 1 r N s.heap.size) args s 0 0 (AA X 1 s.heap.size)) 6 b 185 [(0, .ref (X.2.2 109)), (1, .int v1), (3, .int v3), (4, .int v4)] []) : Z X 1 p l e rm_X10_wanted s m args below meth c 0 0 (MQ below (QI X 1 r N s.heap.size) args s 0 0 (AA X 1 s.heap.size)) 6 M 178 [(0, .ref (X.2.2 109)), (1, .int v1), (3, .int v3), (4, .int v4), (5, .int v5)] [.int t0, .int t1, .ref (X.2.2 125)] := by
  unfold f_X10_wanted_J105_178 at he
  refine z_zastb S ok_125 rfl he dX10_wanted_178 (fun M5 he => ?_)
  refine z_iinc (v := (v5 + 2)) (lv' := [(0, .ref (X.2.2 109)), (1, .int v1), (3, .int v3), (4, .int v4), (5, .int (v5 + 2))]) S [1, 2, 3, 4, 0] 4 dX10_wanted_179 rfl (by rfl) (by decide) rfl ?_
  refine z_goto (tgt := 105) S dX10_wanted_182 (by decide) ?_
  refine z_lv (ks := [0, 1, 2, 3, 4]) rfl ?_
  exact hc _ (Option.some.inj he).symm
set_option maxRecDepth 100000 in
set_option maxHeartbeats 4000000 in
theorem p_X10_wanted_J105_170 {X : Cx} {p : Program} {l : Launch} {e : Env} {s : State} {m : MethodId} {args : Array Value} {below : List Frame} {meth : Method} {c : Code} (S : SB X 1 p s m args meth c cX10_wanted 6 (some .int) RX10) {M : Mm} {N : Mm} {r : Int32} {v1 : Int32} {v3 : Int32} {v4 : Int32} {v5 : Int32} {t0 : Int32} {t1 : Int32} {t2 : Int32} {x : (Mm × Int32) ⊕ Mm}  (he : f_X10_wanted_J105_170 M v1 v3 v4 v5 t0 t1 t2 = some x) (hc : ∀ b, x = .inl b → Z X 1 p l e rm_X10_wanted s m args below meth c 0 0 (MQ below (QI X 1 r N s.heap.size) args s 0 0 (AA X 1 s.heap.size)) 6 b.1 105 [(0, .ref (X.2.2 109)), (1, .int v1), (3, .int v3), (4, .int v4), (5, .int b.2)] []) (hx : ∀ b, x = .inr b → Z X 1 p l e rm_X10_wanted s m args below meth c 0 0 (MQ below (QI X 1 r N s.heap.size) args s 0 0 (AA X 1 s.heap.size)) 6 b 185 [(0, .ref (X.2.2 109)), (1, .int v1), (3, .int v3), (4, .int v4)] []) : Z X 1 p l e rm_X10_wanted s m args below meth c 0 0 (MQ below (QI X 1 r N s.heap.size) args s 0 0 (AA X 1 s.heap.size)) 6 M 170 [(0, .ref (X.2.2 109)), (1, .int v1), (3, .int v3), (4, .int v4), (5, .int v5)] [.int t0, .int t1, .int t2, .ref (X.2.2 125)] := by
  unfold f_X10_wanted_J105_170 at he
  refine z_icmp_ne (tgt := 177) S he dX10_wanted_170 (by decide) (fun he => ?_) (fun he => ?_)
  · refine z_iconst (v := 0) S dX10_wanted_177 (by decide) ?_
    exact p_X10_wanted_J105_178 S  he hc hx
  · refine z_iconst (v := 1) S dX10_wanted_173 (by decide) ?_
    refine z_goto (tgt := 178) S dX10_wanted_174 (by decide) ?_
    exact p_X10_wanted_J105_178 S  he hc hx
set_option maxRecDepth 100000 in
set_option maxHeartbeats 4000000 in
theorem p_X10_wanted_J105_152 {X : Cx} {p : Program} {l : Launch} {e : Env} {s : State} {m : MethodId} {args : Array Value} {below : List Frame} {meth : Method} {c : Code} (S : SB X 1 p s m args meth c cX10_wanted 6 (some .int) RX10) {M : Mm} {N : Mm} {r : Int32} {v1 : Int32} {v3 : Int32} {v4 : Int32} {v5 : Int32} {t0 : Int32} {t1 : Int32} {x : (Mm × Int32) ⊕ Mm}  (he : f_X10_wanted_J105_152 M v1 v3 v4 v5 t0 t1 = some x) (hc : ∀ b, x = .inl b → Z X 1 p l e rm_X10_wanted s m args below meth c 0 0 (MQ below (QI X 1 r N s.heap.size) args s 0 0 (AA X 1 s.heap.size)) 6 b.1 105 [(0, .ref (X.2.2 109)), (1, .int v1), (3, .int v3), (4, .int v4), (5, .int b.2)] []) (hx : ∀ b, x = .inr b → Z X 1 p l e rm_X10_wanted s m args below meth c 0 0 (MQ below (QI X 1 r N s.heap.size) args s 0 0 (AA X 1 s.heap.size)) 6 b 185 [(0, .ref (X.2.2 109)), (1, .int v1), (3, .int v3), (4, .int v4)] []) : Z X 1 p l e rm_X10_wanted s m args below meth c 0 0 (MQ below (QI X 1 r N s.heap.size) args s 0 0 (AA X 1 s.heap.size)) 6 M 152 [(0, .ref (X.2.2 109)), (1, .int v1), (3, .int v3), (4, .int v4), (5, .int v5)] [.int t0, .int t1, .ref (X.2.2 125)] := by
  unfold f_X10_wanted_J105_152 at he
  refine z_aload_n S dX10_wanted_152 rfl 0 rfl ?_
  refine z_getF (j := 114) S fo_RX10_22 5 rfl rfl ok_109 dX10_wanted_153 ?_
  refine z_iload S dX10_wanted_156 4 rfl ?_
  refine z_iconst (v := 1) S dX10_wanted_158 (by decide) ?_
  refine z_iadd S dX10_wanted_159 ?_
  refine z_iald S ok_114 rfl he dX10_wanted_160 (fun he => ?_)
  refine z_iconst (v := 1) S dX10_wanted_161 (by decide) ?_
  refine z_icmp_ne (tgt := 169) S he dX10_wanted_162 (by decide) (fun he => ?_) (fun he => ?_)
  · refine z_iconst (v := 0) S dX10_wanted_169 (by decide) ?_
    exact p_X10_wanted_J105_170 S  he hc hx
  · refine z_iconst (v := 1) S dX10_wanted_165 (by decide) ?_
    refine z_goto (tgt := 170) S dX10_wanted_166 (by decide) ?_
    exact p_X10_wanted_J105_170 S  he hc hx
set_option maxRecDepth 100000 in
set_option maxHeartbeats 4000000 in
theorem p_X10_wanted_L105 {X : Cx} {p : Program} {l : Launch} {e : Env} {s : State} {m : MethodId} {args : Array Value} {below : List Frame} {meth : Method} {c : Code} (S : SB X 1 p s m args meth c cX10_wanted 6 (some .int) RX10) {M : Mm} {N : Mm} {r : Int32} {v1 : Int32} {v3 : Int32} {v4 : Int32} {v5 : Int32} {x : (Mm × Int32) ⊕ Mm}  (he : f_X10_wanted_L105 M v1 v3 v4 v5 = some x) (hc : ∀ b, x = .inl b → Z X 1 p l e rm_X10_wanted s m args below meth c 0 0 (MQ below (QI X 1 r N s.heap.size) args s 0 0 (AA X 1 s.heap.size)) 6 b.1 105 [(0, .ref (X.2.2 109)), (1, .int v1), (3, .int v3), (4, .int v4), (5, .int b.2)] []) (hx : ∀ b, x = .inr b → Z X 1 p l e rm_X10_wanted s m args below meth c 0 0 (MQ below (QI X 1 r N s.heap.size) args s 0 0 (AA X 1 s.heap.size)) 6 b 185 [(0, .ref (X.2.2 109)), (1, .int v1), (3, .int v3), (4, .int v4)] []) : Z X 1 p l e rm_X10_wanted s m args below meth c 0 0 (MQ below (QI X 1 r N s.heap.size) args s 0 0 (AA X 1 s.heap.size)) 6 M 105 [(0, .ref (X.2.2 109)), (1, .int v1), (3, .int v3), (4, .int v4), (5, .int v5)] [] := by
  unfold f_X10_wanted_L105 at he
  refine z_iload S dX10_wanted_105 4 rfl ?_
  refine z_iload_n S dX10_wanted_107 rfl 1 rfl ?_
  refine z_icmp_ge (tgt := 185) S he dX10_wanted_108 (by decide) (fun he => ?_) (fun he => ?_)
  · refine z_lv (ks := [0, 1, 2, 3]) rfl ?_
    exact hx _ (Option.some.inj he).symm
  · refine z_aload_n S dX10_wanted_111 rfl 0 rfl ?_
    refine z_getF (j := 125) S fo_RX10_59 16 rfl rfl ok_109 dX10_wanted_112 ?_
    refine z_iload S dX10_wanted_115 3 rfl ?_
    refine z_zald S ok_125 rfl he dX10_wanted_117 (fun he => ?_)
    refine z_if_eq (tgt := 185) S he dX10_wanted_118 (by decide) (fun he => ?_) (fun he => ?_)
    · refine z_lv (ks := [0, 1, 2, 3]) rfl ?_
      exact hx _ (Option.some.inj he).symm
    · refine z_aload_n S dX10_wanted_121 rfl 0 rfl ?_
      refine z_getF (j := 125) S fo_RX10_59 16 rfl rfl ok_109 dX10_wanted_122 ?_
      refine z_iload S dX10_wanted_125 3 rfl ?_
      refine z_iload S dX10_wanted_127 3 rfl ?_
      refine z_aload_n S dX10_wanted_129 rfl 0 rfl ?_
      refine z_aload_n S dX10_wanted_130 rfl 0 rfl ?_
      refine z_getF (j := 114) S fo_RX10_22 5 rfl rfl ok_109 dX10_wanted_131 ?_
      refine z_iload S dX10_wanted_134 4 rfl ?_
      refine z_iald S ok_114 rfl he dX10_wanted_136 (fun he => ?_)
      refine z_iconst (v := 4) S dX10_wanted_137 (by decide) ?_
      obtain ⟨r4, h9, he⟩ := bnd he
      refine z_cVI (As := [.int (gA M 114 v5), .int 4]) S cv_RX10_246 (K_X10_ofOne  h9) ok_109 (by decide) (q := (RX10, TX10, 28)) rfl rfl ⟨rfl, rfl⟩ ⟨Nat.le_of_ble_eq_true rfl, Nat.le_of_ble_eq_true rfl⟩ ⟨Nat.le_refl _, Nat.le_refl _⟩ rfl rfl (Nat.le_of_ble_eq_true rfl) dX10_wanted_138 ?_
      refine z_iconst (v := (-1)) S dX10_wanted_141 (by decide) ?_
      refine z_ixor S dX10_wanted_142 ?_
      refine z_iand S dX10_wanted_143 ?_
      refine z_if_ne (tgt := 151) S he dX10_wanted_144 (by decide) (fun he => ?_) (fun he => ?_)
      · refine z_iconst (v := 0) S dX10_wanted_151 (by decide) ?_
        exact p_X10_wanted_J105_152 S  he hc hx
      · refine z_iconst (v := 1) S dX10_wanted_147 (by decide) ?_
        refine z_goto (tgt := 152) S dX10_wanted_148 (by decide) ?_
        exact p_X10_wanted_J105_152 S  he hc hx
set_option maxRecDepth 100000 in
set_option maxHeartbeats 4000000 in
theorem p_X10_wanted_L87 {X : Cx} {p : Program} {l : Launch} {e : Env} {s : State} {m : MethodId} {args : Array Value} {below : List Frame} {meth : Method} {c : Code} (S : SB X 1 p s m args meth c cX10_wanted 6 (some .int) RX10) {M : Mm} {N : Mm} {r : Int32} {v1 : Int32} {v3 : Int32} {v4 : Int32} {x : (Mm × Int32 × Int32) ⊕ (Mm × Int32)}  (he : f_X10_wanted_L87 M v1 v3 v4 = some x) (hc : ∀ b, x = .inl b → Z X 1 p l e rm_X10_wanted s m args below meth c 0 0 (MQ below (QI X 1 r N s.heap.size) args s 0 0 (AA X 1 s.heap.size)) 6 b.1 87 [(0, .ref (X.2.2 109)), (1, .int v1), (3, .int b.2.1), (4, .int b.2.2)] []) (hx : ∀ b, x = .inr b → Z X 1 p l e rm_X10_wanted s m args below meth c 0 0 (MQ below (QI X 1 r N s.heap.size) args s 0 0 (AA X 1 s.heap.size)) 6 b.1 209 [(3, .int b.2)] []) : Z X 1 p l e rm_X10_wanted s m args below meth c 0 0 (MQ below (QI X 1 r N s.heap.size) args s 0 0 (AA X 1 s.heap.size)) 6 M 87 [(0, .ref (X.2.2 109)), (1, .int v1), (3, .int v3), (4, .int v4)] [] := by
  unfold f_X10_wanted_L87 at he
  refine z_iload S dX10_wanted_87 3 rfl ?_
  refine z_bipush (v := 64) S dX10_wanted_89 (by decide) ?_
  refine z_icmp_ge (tgt := 209) S he dX10_wanted_91 (by decide) (fun he => ?_) (fun he => ?_)
  · refine z_lv (ks := [2]) rfl ?_
    exact hx _ (Option.some.inj he).symm
  · refine z_aload_n S dX10_wanted_94 rfl 0 rfl ?_
    refine z_getF (j := 125) S fo_RX10_59 16 rfl rfl ok_109 dX10_wanted_95 ?_
    refine z_iload S dX10_wanted_98 3 rfl ?_
    refine z_iconst (v := 1) S dX10_wanted_100 (by decide) ?_
    refine z_zastb S ok_125 rfl he dX10_wanted_101 (fun M3 he => ?_)
    refine z_iconst (v := 0) S dX10_wanted_102 (by decide) ?_
    refine z_istore (lv' := [(0, .ref (X.2.2 109)), (1, .int v1), (3, .int v3), (4, .int v4), (5, .int 0)]) S [1, 2, 3, 4, 0] dX10_wanted_103 (by decide) rfl ?_
    obtain ⟨e_6, hl, he⟩ := bnd he
    have hX : Z X 1 p l e rm_X10_wanted s m args below meth c 0 0 (MQ below (QI X 1 r N s.heap.size) args s 0 0 (AA X 1 s.heap.size)) 6 e_6 185 [(0, .ref (X.2.2 109)), (1, .int v1), (3, .int v3), (4, .int v4)] [] := by
      refine z_iload_n S dX10_wanted_185 rfl 2 rfl ?_
      refine z_aload_n S dX10_wanted_186 rfl 0 rfl ?_
      refine z_getF (j := 125) S fo_RX10_59 16 rfl rfl ok_109 dX10_wanted_187 ?_
      refine z_iload S dX10_wanted_190 3 rfl ?_
      refine z_zald S ok_125 rfl he dX10_wanted_192 (fun he => ?_)
      refine z_if_eq (tgt := 200) S he dX10_wanted_193 (by decide) (fun he => ?_) (fun he => ?_)
      · refine z_iconst (v := 0) S dX10_wanted_200 (by decide) ?_
        refine z_iadd S dX10_wanted_201 ?_
        refine z_istore_n (lv' := [(0, .ref (X.2.2 109)), (1, .int v1), (3, .int (v3 + 0)), (4, .int v4)]) S [1, 2, 0, 3] dX10_wanted_202 rfl (by decide) rfl ?_
        refine z_iinc (v := (v4 + 1)) (lv' := [(0, .ref (X.2.2 109)), (1, .int v1), (3, .int (v3 + 0)), (4, .int (v4 + 1))]) S [1, 2, 3, 0] 3 dX10_wanted_203 rfl (by rfl) (by decide) rfl ?_
        refine z_goto (tgt := 87) S dX10_wanted_206 (by decide) ?_
        refine z_lv (ks := [0, 1, 2, 3]) rfl ?_
        exact hc _ (Option.some.inj he).symm
      · refine z_iconst (v := 1) S dX10_wanted_196 (by decide) ?_
        refine z_goto (tgt := 201) S dX10_wanted_197 (by decide) ?_
        refine z_iadd S dX10_wanted_201 ?_
        refine z_istore_n (lv' := [(0, .ref (X.2.2 109)), (1, .int v1), (3, .int (v3 + 1)), (4, .int v4)]) S [1, 2, 0, 3] dX10_wanted_202 rfl (by decide) rfl ?_
        refine z_iinc (v := (v4 + 1)) (lv' := [(0, .ref (X.2.2 109)), (1, .int v1), (3, .int (v3 + 1)), (4, .int (v4 + 1))]) S [1, 2, 3, 0] 3 dX10_wanted_203 rfl (by rfl) (by decide) rfl ?_
        refine z_goto (tgt := 87) S dX10_wanted_206 (by decide) ?_
        refine z_lv (ks := [0, 1, 2, 3]) rfl ?_
        exact hc _ (Option.some.inj he).symm
    have hZ9 := loopZ (f := (fun a_6 => f_X10_wanted_L105 a_6.1 v1 v3 v4 a_6.2)) (Zh := (fun a_6 => Z X 1 p l e rm_X10_wanted s m args below meth c 0 0 (MQ below (QI X 1 r N s.heap.size) args s 0 0 (AA X 1 s.heap.size)) 6 a_6.1 105 [(0, .ref (X.2.2 109)), (1, .int v1), (3, .int v3), (4, .int v4), (5, .int a_6.2)] [])) (fun a_6 x hb hc hr => p_X10_wanted_L105 S  hb hc (fun b hxe => by rw [hr b hxe]; exact hX)) FU (M3, 0) hl
    exact hZ9
set_option maxRecDepth 100000 in
set_option maxHeartbeats 4000000 in
theorem p_X10_wanted_J27 {X : Cx} {p : Program} {l : Launch} {e : Env} {s : State} {m : MethodId} {args : Array Value} {below : List Frame} {meth : Method} {c : Code} (S : SB X 1 p s m args meth c cX10_wanted 6 (some .int) RX10) {M : Mm} {N : Mm} {r : Int32} {v1 : Int32} {t0 : Int32}  (he : f_X10_wanted_J27 M v1 t0 = some (r, N)) : Z X 1 p l e rm_X10_wanted s m args below meth c 0 0 (MQ below (QI X 1 r N s.heap.size) args s 0 0 (AA X 1 s.heap.size)) 6 M 27 [(0, .ref (X.2.2 109)), (1, .int v1)] [.int t0] := by
  unfold f_X10_wanted_J27 at he
  refine z_istore_n (lv' := [(0, .ref (X.2.2 109)), (1, .int v1), (2, .int t0)]) S [1, 2, 0] dX10_wanted_27 rfl (by decide) rfl ?_
  refine z_iconst (v := 0) S dX10_wanted_28 (by decide) ?_
  refine z_istore_n (lv' := [(0, .ref (X.2.2 109)), (1, .int v1), (2, .int t0), (3, .int 0)]) S [1, 2, 3, 0] dX10_wanted_29 rfl (by decide) rfl ?_
  obtain ⟨e_2, hl, he⟩ := bnd he
  have hX : Z X 1 p l e rm_X10_wanted s m args below meth c 0 0 (MQ below (QI X 1 r N s.heap.size) args s 0 0 (AA X 1 s.heap.size)) 6 M 76 [(0, .ref (X.2.2 109)), (1, .int v1), (2, .int e_2)] [] := by
    refine z_iload_n S dX10_wanted_76 rfl 2 rfl ?_
    refine z_if_ne (tgt := 82) S he dX10_wanted_77 (by decide) (fun he => ?_) (fun he => ?_)
    · refine z_iconst (v := 0) S dX10_wanted_82 (by decide) ?_
      refine z_istore_n (lv' := [(0, .ref (X.2.2 109)), (1, .int v1), (3, .int 0)]) S [1, 2, 0] dX10_wanted_83 rfl (by decide) rfl ?_
      refine z_iconst (v := 0) S dX10_wanted_84 (by decide) ?_
      refine z_istore (lv' := [(0, .ref (X.2.2 109)), (1, .int v1), (3, .int 0), (4, .int 0)]) S [1, 2, 3, 0] dX10_wanted_85 (by decide) rfl ?_
      obtain ⟨e_7, hl, he⟩ := bnd he
      have hX : Z X 1 p l e rm_X10_wanted s m args below meth c 0 0 (MQ below (QI X 1 r N s.heap.size) args s 0 0 (AA X 1 s.heap.size)) 6 e_7.1 209 [(3, .int e_7.2)] [] := by
        refine z_iload_n S dX10_wanted_209 rfl 0 rfl ?_
        exact z_iret S (Prod.mk.inj (Option.some.inj he)) dX10_wanted_210
      have hZ9 := loopZ (f := (fun a_7 => f_X10_wanted_L87 a_7.1 v1 a_7.2.1 a_7.2.2)) (Zh := (fun a_7 => Z X 1 p l e rm_X10_wanted s m args below meth c 0 0 (MQ below (QI X 1 r N s.heap.size) args s 0 0 (AA X 1 s.heap.size)) 6 a_7.1 87 [(0, .ref (X.2.2 109)), (1, .int v1), (3, .int a_7.2.1), (4, .int a_7.2.2)] [])) (fun a_7 x hb hc hr => p_X10_wanted_L87 S  hb hc (fun b hxe => by rw [hr b hxe]; exact hX)) FU (M, 0, 0) hl
      exact hZ9
    · refine z_iconst (v := (-1)) S dX10_wanted_80 (by decide) ?_
      exact z_iret S (Prod.mk.inj (Option.some.inj he)) dX10_wanted_81
  have hZ9 := loopZ (f := (fun a_2 => f_X10_wanted_L30 M v1 a_2.1 a_2.2)) (Zh := (fun a_2 => Z X 1 p l e rm_X10_wanted s m args below meth c 0 0 (MQ below (QI X 1 r N s.heap.size) args s 0 0 (AA X 1 s.heap.size)) 6 M 30 [(0, .ref (X.2.2 109)), (1, .int v1), (2, .int a_2.1), (3, .int a_2.2)] [])) (fun a_2 x hb hc hr => p_X10_wanted_L30 S  hb hc (fun b hxe => by rw [hr b hxe]; exact hX)) FU (t0, 0) hl
  exact hZ9
set_option maxRecDepth 100000 in
set_option maxHeartbeats 4000000 in
theorem p_X10_wanted_J26 {X : Cx} {p : Program} {l : Launch} {e : Env} {s : State} {m : MethodId} {args : Array Value} {below : List Frame} {meth : Method} {c : Code} (S : SB X 1 p s m args meth c cX10_wanted 6 (some .int) RX10) {M : Mm} {N : Mm} {r : Int32} {v1 : Int32}  (he : f_X10_wanted_J26 M v1 = some (r, N)) : Z X 1 p l e rm_X10_wanted s m args below meth c 0 0 (MQ below (QI X 1 r N s.heap.size) args s 0 0 (AA X 1 s.heap.size)) 6 M 26 [(0, .ref (X.2.2 109)), (1, .int v1)] [] := by
  unfold f_X10_wanted_J26 at he
  refine z_iconst (v := 0) S dX10_wanted_26 (by decide) ?_
  exact p_X10_wanted_J27 S  he
set_option maxRecDepth 100000 in
set_option maxHeartbeats 4000000 in
theorem K_X10_wanted {X : Cx} {l : Launch} {M : Mm} {r : Int32} {N : Mm}  (he : f_X10_wanted M  = some (r, N)) : KI X 1 l yX10_wanted (wz yX10_wanted cX10_wanted 6 (some .int)) rm_X10_wanted [.ref (X.2.2 109)] M r N := by
  intro sz
  refine K_of (Qc := (fun sz => QI X 1 r N sz)) (own := RX10) (lv0 := [(0, .ref (X.2.2 109))]) (by decide +kernel) rfl (Nat.le_of_ble_eq_true rfl) rfl (fun p e s m args below meth c S => ?_) sz
  · unfold f_X10_wanted at he
    refine z_aload_n S dX10_wanted_0 rfl 0 rfl ?_
    refine z_getI S fo_RX10_74 rfl ok_109 dX10_wanted_1 ?_
    refine z_istore_n (lv' := [(0, .ref (X.2.2 109)), (1, .int (gI M 109 8))]) S [1, 0] dX10_wanted_4 rfl (by decide) rfl ?_
    refine z_aload_n S dX10_wanted_5 rfl 0 rfl ?_
    refine z_iconst (v := 0) S dX10_wanted_6 (by decide) ?_
    refine z_putIb S fo_RX10_74p rfl ok_109 rfl rfl he dX10_wanted_7 (fun M1 he => ?_)
    refine z_iload_n S dX10_wanted_10 rfl 1 rfl ?_
    refine z_iconst (v := 2) S dX10_wanted_11 (by decide) ?_
    refine z_irem S (by decide) dX10_wanted_12 ?_
    refine z_if_ne (tgt := 26) S he dX10_wanted_13 (by decide) (fun he => ?_) (fun he => ?_)
    · exact p_X10_wanted_J26 S  he
    · refine z_iload_n S dX10_wanted_16 rfl 1 rfl ?_
      refine z_bipush (v := 40) S dX10_wanted_17 (by decide) ?_
      refine z_icmp_gt (tgt := 26) S he dX10_wanted_19 (by decide) (fun he => ?_) (fun he => ?_)
      · exact p_X10_wanted_J26 S  he
      · refine z_iconst (v := 1) S dX10_wanted_22 (by decide) ?_
        refine z_goto (tgt := 27) S dX10_wanted_23 (by decide) ?_
        exact p_X10_wanted_J27 S  he
set_option maxRecDepth 100000 in
set_option maxHeartbeats 4000000 in
theorem p_X10_send_J59_97 {X : Cx} {p : Program} {l : Launch} {e : Env} {s : State} {m : MethodId} {args : Array Value} {below : List Frame} {meth : Method} {c : Code} (S : SB X 1 p s m args meth c cX10_send 7 (some .int) RX10) {M : Mm} {N : Mm} {r : Int32} {v1 : Int32} {v2 : Int32} {v3 : Int32} {v4 : Int32} {v6 : Int32} {t0 : Int32} {x : (Int32 × Int32) ⊕ Int32}  (he : f_X10_send_J59_97 M v1 v2 v3 v4 v6 t0 = some x) (hc : ∀ b, x = .inl b → Z X 1 p l e rm_X10_send s m args below meth c 0 0 (MQ below (QI X 1 r N s.heap.size) args s 0 0 (AA X 1 s.heap.size)) 7 M 59 [(0, .ref (X.2.2 109)), (1, .int v1), (2, .int v2), (3, .int v3), (4, .int v4), (5, .int b.1), (6, .int b.2)] []) (hx : ∀ b, x = .inr b → Z X 1 p l e rm_X10_send s m args below meth c 0 0 (MQ below (QI X 1 r N s.heap.size) args s 0 0 (AA X 1 s.heap.size)) 7 M 107 [(0, .ref (X.2.2 109)), (1, .int v1), (2, .int v2), (3, .int v3), (4, .int v4), (5, .int b)] []) : Z X 1 p l e rm_X10_send s m args below meth c 0 0 (MQ below (QI X 1 r N s.heap.size) args s 0 0 (AA X 1 s.heap.size)) 7 M 97 [(0, .ref (X.2.2 109)), (1, .int v1), (2, .int v2), (3, .int v3), (4, .int v4), (6, .int v6)] [.int t0] := by
  unfold f_X10_send_J59_97 at he
  refine z_iconst (v := 0) S dX10_send_97 (by decide) ?_
  refine z_iadd S dX10_send_98 ?_
  refine z_istore (lv' := [(0, .ref (X.2.2 109)), (1, .int v1), (2, .int v2), (3, .int v3), (4, .int v4), (5, .int (t0 + 0)), (6, .int v6)]) S [1, 2, 3, 4, 5, 0, 6] dX10_send_99 (by decide) rfl ?_
  refine z_iinc (v := (v6 + 1)) (lv' := [(0, .ref (X.2.2 109)), (1, .int v1), (2, .int v2), (3, .int v3), (4, .int v4), (5, .int (t0 + 0)), (6, .int (v6 + 1))]) S [1, 2, 3, 4, 5, 6, 0] 6 dX10_send_101 rfl (by rfl) (by decide) rfl ?_
  refine z_goto (tgt := 59) S dX10_send_104 (by decide) ?_
  refine z_lv (ks := [0, 1, 2, 3, 4, 5, 6]) rfl ?_
  exact hc _ (Option.some.inj he).symm
set_option maxRecDepth 100000 in
set_option maxHeartbeats 4000000 in
theorem p_X10_send_L59 {X : Cx} {p : Program} {l : Launch} {e : Env} {s : State} {m : MethodId} {args : Array Value} {below : List Frame} {meth : Method} {c : Code} (S : SB X 1 p s m args meth c cX10_send 7 (some .int) RX10) {M : Mm} {N : Mm} {r : Int32} {v1 : Int32} {v2 : Int32} {v3 : Int32} {v4 : Int32} {v5 : Int32} {v6 : Int32} {x : (Int32 × Int32) ⊕ Int32}  (he : f_X10_send_L59 M v1 v2 v3 v4 v5 v6 = some x) (hc : ∀ b, x = .inl b → Z X 1 p l e rm_X10_send s m args below meth c 0 0 (MQ below (QI X 1 r N s.heap.size) args s 0 0 (AA X 1 s.heap.size)) 7 M 59 [(0, .ref (X.2.2 109)), (1, .int v1), (2, .int v2), (3, .int v3), (4, .int v4), (5, .int b.1), (6, .int b.2)] []) (hx : ∀ b, x = .inr b → Z X 1 p l e rm_X10_send s m args below meth c 0 0 (MQ below (QI X 1 r N s.heap.size) args s 0 0 (AA X 1 s.heap.size)) 7 M 107 [(0, .ref (X.2.2 109)), (1, .int v1), (2, .int v2), (3, .int v3), (4, .int v4), (5, .int b)] []) : Z X 1 p l e rm_X10_send s m args below meth c 0 0 (MQ below (QI X 1 r N s.heap.size) args s 0 0 (AA X 1 s.heap.size)) 7 M 59 [(0, .ref (X.2.2 109)), (1, .int v1), (2, .int v2), (3, .int v3), (4, .int v4), (5, .int v5), (6, .int v6)] [] := by
  unfold f_X10_send_L59 at he
  refine z_iload S dX10_send_59 6 rfl ?_
  refine z_bipush (v := 64) S dX10_send_61 (by decide) ?_
  refine z_icmp_ge (tgt := 107) S he dX10_send_63 (by decide) (fun he => ?_) (fun he => ?_)
  · refine z_lv (ks := [0, 1, 2, 3, 4, 5]) rfl ?_
    exact hx _ (Option.some.inj he).symm
  · refine z_iload S dX10_send_66 5 rfl ?_
    refine z_aload_n S dX10_send_68 rfl 0 rfl ?_
    refine z_getF (j := 125) S fo_RX10_59 16 rfl rfl ok_109 dX10_send_69 ?_
    refine z_iload S dX10_send_72 6 rfl ?_
    refine z_zald S ok_125 rfl he dX10_send_74 (fun he => ?_)
    refine z_if_eq (tgt := 97) S he dX10_send_75 (by decide) (fun he => ?_) (fun he => ?_)
    · refine z_lv (ks := [0, 1, 2, 3, 4, 6]) rfl ?_
      exact p_X10_send_J59_97 S  he hc hx
    · refine z_iload S dX10_send_78 6 rfl ?_
      refine z_aload_n S dX10_send_80 rfl 0 rfl ?_
      refine z_iload S dX10_send_81 4 rfl ?_
      refine z_iconst (v := 4) S dX10_send_83 (by decide) ?_
      obtain ⟨r4, h9, he⟩ := bnd he
      refine z_cVI (As := [.int v4, .int 4]) S cv_RX10_246 (K_X10_ofOne  h9) ok_109 (by decide) (q := (RX10, TX10, 28)) rfl rfl ⟨rfl, rfl⟩ ⟨Nat.le_of_ble_eq_true rfl, Nat.le_of_ble_eq_true rfl⟩ ⟨Nat.le_refl _, Nat.le_refl _⟩ rfl rfl (Nat.le_of_ble_eq_true rfl) dX10_send_84 ?_
      refine z_iconst (v := (-1)) S dX10_send_87 (by decide) ?_
      refine z_ixor S dX10_send_88 ?_
      refine z_iand S dX10_send_89 ?_
      refine z_if_ne (tgt := 97) S he dX10_send_90 (by decide) (fun he => ?_) (fun he => ?_)
      · refine z_lv (ks := [0, 1, 2, 3, 4, 6]) rfl ?_
        exact p_X10_send_J59_97 S  he hc hx
      · refine z_iconst (v := 1) S dX10_send_93 (by decide) ?_
        refine z_goto (tgt := 98) S dX10_send_94 (by decide) ?_
        refine z_iadd S dX10_send_98 ?_
        refine z_istore (lv' := [(0, .ref (X.2.2 109)), (1, .int v1), (2, .int v2), (3, .int v3), (4, .int v4), (5, .int (v5 + 1)), (6, .int v6)]) S [1, 2, 3, 4, 5, 0, 6] dX10_send_99 (by decide) rfl ?_
        refine z_iinc (v := (v6 + 1)) (lv' := [(0, .ref (X.2.2 109)), (1, .int v1), (2, .int v2), (3, .int v3), (4, .int v4), (5, .int (v5 + 1)), (6, .int (v6 + 1))]) S [1, 2, 3, 4, 5, 6, 0] 6 dX10_send_101 rfl (by rfl) (by decide) rfl ?_
        refine z_goto (tgt := 59) S dX10_send_104 (by decide) ?_
        refine z_lv (ks := [0, 1, 2, 3, 4, 5, 6]) rfl ?_
        exact hc _ (Option.some.inj he).symm
set_option maxRecDepth 100000 in
set_option maxHeartbeats 4000000 in
theorem p_X10_send_L37 {X : Cx} {p : Program} {l : Launch} {e : Env} {s : State} {m : MethodId} {args : Array Value} {below : List Frame} {meth : Method} {c : Code} (S : SB X 1 p s m args meth c cX10_send 7 (some .int) RX10) {M : Mm} {N : Mm} {r : Int32} {v1 : Int32} {v2 : Int32} {v3 : Int32} {v4 : Int32} {x : (Int32 × Int32 × Int32) ⊕ Int32}  (he : f_X10_send_L37 M v1 v2 v3 v4 = some x) (hc : ∀ b, x = .inl b → Z X 1 p l e rm_X10_send s m args below meth c 0 0 (MQ below (QI X 1 r N s.heap.size) args s 0 0 (AA X 1 s.heap.size)) 7 M 37 [(0, .ref (X.2.2 109)), (1, .int v1), (2, .int b.1), (3, .int b.2.1), (4, .int b.2.2)] []) (hx : ∀ b, x = .inr b → Z X 1 p l e rm_X10_send s m args below meth c 0 0 (MQ below (QI X 1 r N s.heap.size) args s 0 0 (AA X 1 s.heap.size)) 7 M 142 [(2, .int b)] []) : Z X 1 p l e rm_X10_send s m args below meth c 0 0 (MQ below (QI X 1 r N s.heap.size) args s 0 0 (AA X 1 s.heap.size)) 7 M 37 [(0, .ref (X.2.2 109)), (1, .int v1), (2, .int v2), (3, .int v3), (4, .int v4)] [] := by
  unfold f_X10_send_L37 at he
  refine z_iload S dX10_send_37 4 rfl ?_
  refine z_aload_n S dX10_send_39 rfl 0 rfl ?_
  refine z_getF (j := 110) S fo_RX10_7 1 rfl rfl ok_109 dX10_send_40 ?_
  refine z_iconst (v := 4) S dX10_send_43 (by decide) ?_
  refine z_iald S ok_110 rfl he dX10_send_44 (fun he => ?_)
  refine z_icmp_ge (tgt := 142) S he dX10_send_45 (by decide) (fun he => ?_) (fun he => ?_)
  · refine z_lv (ks := [2]) rfl ?_
    exact hx _ (Option.some.inj he).symm
  · refine z_iload_n S dX10_send_48 rfl 1 rfl ?_
    refine z_iconst (v := 1) S dX10_send_49 (by decide) ?_
    refine z_icmp_le (tgt := 142) S he dX10_send_50 (by decide) (fun he => ?_) (fun he => ?_)
    · refine z_lv (ks := [2]) rfl ?_
      exact hx _ (Option.some.inj he).symm
    · refine z_iconst (v := 0) S dX10_send_53 (by decide) ?_
      refine z_istore (lv' := [(0, .ref (X.2.2 109)), (1, .int v1), (2, .int v2), (3, .int v3), (4, .int v4), (5, .int 0)]) S [1, 2, 3, 4, 5, 0] dX10_send_54 (by decide) rfl ?_
      refine z_iconst (v := 0) S dX10_send_56 (by decide) ?_
      refine z_istore (lv' := [(0, .ref (X.2.2 109)), (1, .int v1), (2, .int v2), (3, .int v3), (4, .int v4), (5, .int 0), (6, .int 0)]) S [1, 2, 3, 4, 5, 6, 0] dX10_send_57 (by decide) rfl ?_
      obtain ⟨e_5, hl, he⟩ := bnd he
      have hX : Z X 1 p l e rm_X10_send s m args below meth c 0 0 (MQ below (QI X 1 r N s.heap.size) args s 0 0 (AA X 1 s.heap.size)) 7 M 107 [(0, .ref (X.2.2 109)), (1, .int v1), (2, .int v2), (3, .int v3), (4, .int v4), (5, .int e_5)] [] := by
        refine z_iload S dX10_send_107 5 rfl ?_
        refine z_iload_n S dX10_send_109 rfl 1 rfl ?_
        refine z_iload S dX10_send_110 5 rfl ?_
        refine z_isub S dX10_send_112 ?_
        refine z_cSI (As := [.int e_5, .int (v1 - e_5)]) S cs_RX10_249 (K_X10_greater  rfl) ⟨rfl, rfl⟩ ⟨Nat.le_of_ble_eq_true rfl, Nat.le_of_ble_eq_true rfl⟩ ⟨Nat.le_refl _, Nat.le_refl _⟩ rfl rfl (Nat.le_of_ble_eq_true rfl) dX10_send_113 ?_
        refine z_iload_n S dX10_send_116 rfl 3 rfl ?_
        refine z_icmp_lt (tgt := 123) S he dX10_send_117 (by decide) (fun he => ?_) (fun he => ?_)
        · refine z_iload S dX10_send_123 5 rfl ?_
          refine z_iload_n S dX10_send_125 rfl 1 rfl ?_
          refine z_iload S dX10_send_126 5 rfl ?_
          refine z_isub S dX10_send_128 ?_
          refine z_cSI (As := [.int e_5, .int (v1 - e_5)]) S cs_RX10_249 (K_X10_greater  rfl) ⟨rfl, rfl⟩ ⟨Nat.le_of_ble_eq_true rfl, Nat.le_of_ble_eq_true rfl⟩ ⟨Nat.le_refl _, Nat.le_refl _⟩ rfl rfl (Nat.le_of_ble_eq_true rfl) dX10_send_129 ?_
          obtain ⟨x6, ex6, he⟩ := bnd he
          rw [Option.some.inj ex6]
          refine z_istore_n (lv' := [(0, .ref (X.2.2 109)), (1, .int v1), (3, .int x6), (4, .int v4)]) S [1, 2, 0, 4] dX10_send_132 rfl (by decide) rfl ?_
          refine z_iload S dX10_send_133 3 rfl ?_
          refine z_istore_n (lv' := [(0, .ref (X.2.2 109)), (1, .int v1), (2, .int v4), (3, .int x6), (4, .int v4)]) S [1, 2, 0, 3, 4] dX10_send_135 rfl (by decide) rfl ?_
          refine z_iinc (v := (v4 + 1)) (lv' := [(0, .ref (X.2.2 109)), (1, .int v1), (2, .int v4), (3, .int x6), (4, .int (v4 + 1))]) S [1, 2, 3, 4, 0] 4 dX10_send_136 rfl (by rfl) (by decide) rfl ?_
          refine z_goto (tgt := 37) S dX10_send_139 (by decide) ?_
          refine z_lv (ks := [0, 1, 2, 3, 4]) rfl ?_
          exact hc _ (Option.some.inj he).symm
        · refine z_goto (tgt := 136) S dX10_send_120 (by decide) ?_
          refine z_iinc (v := (v4 + 1)) (lv' := [(0, .ref (X.2.2 109)), (1, .int v1), (2, .int v2), (3, .int v3), (4, .int (v4 + 1)), (5, .int e_5)]) S [1, 2, 3, 4, 0, 5] 4 dX10_send_136 rfl (by rfl) (by decide) rfl ?_
          refine z_goto (tgt := 37) S dX10_send_139 (by decide) ?_
          refine z_lv (ks := [0, 1, 2, 3, 4]) rfl ?_
          exact hc _ (Option.some.inj he).symm
      have hZ9 := loopZ (f := (fun a_5 => f_X10_send_L59 M v1 v2 v3 v4 a_5.1 a_5.2)) (Zh := (fun a_5 => Z X 1 p l e rm_X10_send s m args below meth c 0 0 (MQ below (QI X 1 r N s.heap.size) args s 0 0 (AA X 1 s.heap.size)) 7 M 59 [(0, .ref (X.2.2 109)), (1, .int v1), (2, .int v2), (3, .int v3), (4, .int v4), (5, .int a_5.1), (6, .int a_5.2)] [])) (fun a_5 x hb hc hr => p_X10_send_L59 S  hb hc (fun b hxe => by rw [hr b hxe]; exact hX)) FU (0, 0) hl
      exact hZ9
set_option maxRecDepth 100000 in
set_option maxHeartbeats 4000000 in
theorem p_X10_send_J16 {X : Cx} {p : Program} {l : Launch} {e : Env} {s : State} {m : MethodId} {args : Array Value} {below : List Frame} {meth : Method} {c : Code} (S : SB X 1 p s m args meth c cX10_send 7 (some .int) RX10) {M : Mm} {N : Mm} {r : Int32} {v1 : Int32} {t0 : Int32}  (he : f_X10_send_J16 M v1 t0 = some (r, N)) : Z X 1 p l e rm_X10_send s m args below meth c 0 0 (MQ below (QI X 1 r N s.heap.size) args s 0 0 (AA X 1 s.heap.size)) 7 M 16 [(0, .ref (X.2.2 109)), (1, .int v1)] [.int t0, .ref (X.2.2 109)] := by
  unfold f_X10_send_J16 at he
  refine z_putIb S fo_RX10_63p rfl ok_109 rfl rfl he dX10_send_16 (fun M3 he => ?_)
  refine z_aload_n S dX10_send_19 rfl 0 rfl ?_
  refine z_getI S fo_RX10_63 rfl ok_109 dX10_send_20 ?_
  refine z_if_le (tgt := 28) S he dX10_send_23 (by decide) (fun he => ?_) (fun he => ?_)
  · refine z_iconst (v := (-1)) S dX10_send_28 (by decide) ?_
    refine z_istore_n (lv' := [(0, .ref (X.2.2 109)), (1, .int v1), (2, .int (-1))]) S [1, 2, 0] dX10_send_29 rfl (by decide) rfl ?_
    refine z_ldcw (v := 2000000000) S kc_RX10_344 dX10_send_30 ?_
    refine z_istore_n (lv' := [(0, .ref (X.2.2 109)), (1, .int v1), (2, .int (-1)), (3, .int 2000000000)]) S [1, 2, 3, 0] dX10_send_33 rfl (by decide) rfl ?_
    refine z_iconst (v := 0) S dX10_send_34 (by decide) ?_
    refine z_istore (lv' := [(0, .ref (X.2.2 109)), (1, .int v1), (2, .int (-1)), (3, .int 2000000000), (4, .int 0)]) S [1, 2, 3, 4, 0] dX10_send_35 (by decide) rfl ?_
    obtain ⟨e_7, hl, he⟩ := bnd he
    have hX : Z X 1 p l e rm_X10_send s m args below meth c 0 0 (MQ below (QI X 1 r N s.heap.size) args s 0 0 (AA X 1 s.heap.size)) 7 M3 142 [(2, .int e_7)] [] := by
      refine z_iload_n S dX10_send_142 rfl 0 rfl ?_
      exact z_iret S (Prod.mk.inj (Option.some.inj he)) dX10_send_143
    have hZ9 := loopZ (f := (fun a_7 => f_X10_send_L37 M3 v1 a_7.1 a_7.2.1 a_7.2.2)) (Zh := (fun a_7 => Z X 1 p l e rm_X10_send s m args below meth c 0 0 (MQ below (QI X 1 r N s.heap.size) args s 0 0 (AA X 1 s.heap.size)) 7 M3 37 [(0, .ref (X.2.2 109)), (1, .int v1), (2, .int a_7.1), (3, .int a_7.2.1), (4, .int a_7.2.2)] [])) (fun a_7 x hb hc hr => p_X10_send_L37 S  hb hc (fun b hxe => by rw [hr b hxe]; exact hX)) FU ((-1), 2000000000, 0) hl
    exact hZ9
  · refine z_iconst (v := 0) S dX10_send_26 (by decide) ?_
    exact z_iret S (Prod.mk.inj (Option.some.inj he)) dX10_send_27
set_option maxRecDepth 100000 in
set_option maxHeartbeats 4000000 in
theorem K_X10_send {X : Cx} {l : Launch} {M : Mm} {r : Int32} {N : Mm}  (he : f_X10_send M  = some (r, N)) : KI X 1 l yX10_send (wz yX10_send cX10_send 7 (some .int)) rm_X10_send [.ref (X.2.2 109)] M r N := by
  intro sz
  refine K_of (Qc := (fun sz => QI X 1 r N sz)) (own := RX10) (lv0 := [(0, .ref (X.2.2 109))]) (by decide +kernel) rfl (Nat.le_of_ble_eq_true rfl) rfl (fun p e s m args below meth c S => ?_) sz
  · unfold f_X10_send at he
    refine z_aload_n S dX10_send_0 rfl 0 rfl ?_
    obtain ⟨⟨r1, M2⟩, h9, he⟩ := bnd he
    dsimp only at he
    refine z_cVI (As := []) S cv_RX10_341 (K_X10_wanted  h9) ok_109 (by decide) (q := (RX10, TX10, 28)) rfl rfl ⟨rfl, rfl⟩ ⟨Nat.le_of_ble_eq_true rfl, Nat.le_of_ble_eq_true rfl⟩ ⟨Nat.le_refl _, Nat.le_refl _⟩ rfl rfl (Nat.le_of_ble_eq_true rfl) dX10_send_1 ?_
    refine z_istore_n (lv' := [(0, .ref (X.2.2 109)), (1, .int r1)]) S [1, 0] dX10_send_4 rfl (by decide) rfl ?_
    refine z_aload_n S dX10_send_5 rfl 0 rfl ?_
    refine z_iload_n S dX10_send_6 rfl 1 rfl ?_
    refine z_iconst (v := (-1)) S dX10_send_7 (by decide) ?_
    refine z_icmp_ne (tgt := 15) S he dX10_send_8 (by decide) (fun he => ?_) (fun he => ?_)
    · refine z_iconst (v := 0) S dX10_send_15 (by decide) ?_
      exact p_X10_send_J16 S  he
    · refine z_iconst (v := 1) S dX10_send_11 (by decide) ?_
      refine z_goto (tgt := 16) S dX10_send_12 (by decide) ?_
      exact p_X10_send_J16 S  he
set_option maxRecDepth 100000 in
set_option maxHeartbeats 4000000 in
theorem p_X10_show_J67 {X : Cx} {p : Program} {l : Launch} {e : Env} {s : State} {m : MethodId} {args : Array Value} {below : List Frame} {meth : Method} {c : Code} (S : SB X 1 p s m args meth c cX10_show 4 (some .boolean) RX10) {M : Mm} {N : Mm} {r : Bool} {v2 : Int32} {v3 : Int32} {t0 : Int32} {t1 : Int32}  (he : f_X10_show_J67 M v2 v3 t0 t1 = some (r, N)) : Z X 1 p l e rm_X10_show s m args below meth c 0 0 (MQ below (QI X 1 (bI r) N s.heap.size) args s 0 0 (AA X 1 s.heap.size)) 4 M 67 [(2, .int v2), (3, .int v3)] [.int t0, .int t1, .ref (X.2.2 110)] := by
  unfold f_X10_show_J67 at he
  refine z_iastb S ok_110 rfl he dX10_show_67 (fun M5 he => ?_)
  refine z_iload_n S dX10_show_68 rfl 1 rfl ?_
  refine z_iload_n S dX10_show_69 rfl 0 rfl ?_
  refine z_icmp_eq (tgt := 77) S he dX10_show_70 (by decide) (fun he => ?_) (fun he => ?_)
  · refine z_iconst (v := 0) S dX10_show_77 (by decide) ?_
    exact z_zret0 S (Prod.mk.inj (Option.some.inj he)) dX10_show_78
  · refine z_iconst (v := 1) S dX10_show_73 (by decide) ?_
    refine z_goto (tgt := 78) S dX10_show_74 (by decide) ?_
    exact z_zret1 S (Prod.mk.inj (Option.some.inj he)) dX10_show_78
set_option maxRecDepth 100000 in
set_option maxHeartbeats 4000000 in
theorem p_X10_show_J45 {X : Cx} {p : Program} {l : Launch} {e : Env} {s : State} {m : MethodId} {args : Array Value} {below : List Frame} {meth : Method} {c : Code} (S : SB X 1 p s m args meth c cX10_show 4 (some .boolean) RX10) {M : Mm} {N : Mm} {r : Bool} {v1 : Int32} {v2 : Int32} {t0 : Int32}  (he : f_X10_show_J45 M v1 v2 t0 = some (r, N)) : Z X 1 p l e rm_X10_show s m args below meth c 0 0 (MQ below (QI X 1 (bI r) N s.heap.size) args s 0 0 (AA X 1 s.heap.size)) 4 M 45 [(0, .ref (X.2.2 109)), (1, .int v1), (2, .int v2)] [.int t0] := by
  unfold f_X10_show_J45 at he
  refine z_istore_n (lv' := [(0, .ref (X.2.2 109)), (1, .int v1), (2, .int v2), (3, .int t0)]) S [1, 2, 3, 0] dX10_show_45 rfl (by decide) rfl ?_
  refine z_aload_n S dX10_show_46 rfl 0 rfl ?_
  refine z_getF (j := 110) S fo_RX10_7 1 rfl rfl ok_109 dX10_show_47 ?_
  refine z_bipush (v := 12) S dX10_show_50 (by decide) ?_
  refine z_iconst (v := 5) S dX10_show_52 (by decide) ?_
  refine z_iload_n S dX10_show_53 rfl 1 rfl ?_
  refine z_imul S dX10_show_54 ?_
  refine z_iadd S dX10_show_55 ?_
  refine z_iconst (v := 3) S dX10_show_56 (by decide) ?_
  refine z_iadd S dX10_show_57 ?_
  refine z_iload_n S dX10_show_58 rfl 2 rfl ?_
  refine z_if_eq (tgt := 66) S he dX10_show_59 (by decide) (fun he => ?_) (fun he => ?_)
  · refine z_iconst (v := 0) S dX10_show_66 (by decide) ?_
    refine z_lv (ks := [2, 3]) rfl ?_
    exact p_X10_show_J67 S  he
  · refine z_iconst (v := 1) S dX10_show_62 (by decide) ?_
    refine z_goto (tgt := 67) S dX10_show_63 (by decide) ?_
    refine z_lv (ks := [2, 3]) rfl ?_
    exact p_X10_show_J67 S  he
set_option maxRecDepth 100000 in
set_option maxHeartbeats 4000000 in
theorem p_X10_show_J14 {X : Cx} {p : Program} {l : Launch} {e : Env} {s : State} {m : MethodId} {args : Array Value} {below : List Frame} {meth : Method} {c : Code} (S : SB X 1 p s m args meth c cX10_show 4 (some .boolean) RX10) {M : Mm} {N : Mm} {r : Bool} {v1 : Int32} {v2 : Int32} {t0 : Int32}  (he : f_X10_show_J14 M v1 v2 t0 = some (r, N)) : Z X 1 p l e rm_X10_show s m args below meth c 0 0 (MQ below (QI X 1 (bI r) N s.heap.size) args s 0 0 (AA X 1 s.heap.size)) 4 M 14 [(0, .ref (X.2.2 109)), (1, .int v1), (2, .int v2)] [.int t0, .ref (X.2.2 109)] := by
  unfold f_X10_show_J14 at he
  refine z_putIb S fo_RX10_63p rfl ok_109 rfl rfl he dX10_show_14 (fun M2 he => ?_)
  refine z_aload_n S dX10_show_17 rfl 0 rfl ?_
  refine z_getI S fo_RX10_63 rfl ok_109 dX10_show_18 ?_
  refine z_if_le (tgt := 26) S he dX10_show_21 (by decide) (fun he => ?_) (fun he => ?_)
  · refine z_aload_n S dX10_show_26 rfl 0 rfl ?_
    obtain ⟨M3, h9, he⟩ := bnd he
    refine z_cVV (As := []) S cv_RX10_306 (K_X10_remembers  h9) ok_109 (by decide) (q := (RX10, TX10, 28)) rfl rfl ⟨rfl, rfl⟩ ⟨Nat.le_of_ble_eq_true rfl, Nat.le_of_ble_eq_true rfl⟩ ⟨Nat.le_refl _, Nat.le_refl _⟩ rfl rfl (Nat.le_of_ble_eq_true rfl) dX10_show_27 ?_
    refine z_aload_n S dX10_show_30 rfl 0 rfl ?_
    refine z_iload_n S dX10_show_31 rfl 1 rfl ?_
    refine z_iconst (v := 3) S dX10_show_32 (by decide) ?_
    obtain ⟨r4, h9, he⟩ := bnd he
    refine z_cVI (As := [.int v1, .int 3]) S cv_RX10_70 (K_X10_of  h9) ok_109 (by decide) (q := (RX10, TX10, 28)) rfl rfl ⟨rfl, rfl⟩ ⟨Nat.le_of_ble_eq_true rfl, Nat.le_of_ble_eq_true rfl⟩ ⟨Nat.le_refl _, Nat.le_refl _⟩ rfl rfl (Nat.le_of_ble_eq_true rfl) dX10_show_33 ?_
    refine z_iconst (v := 1) S dX10_show_36 (by decide) ?_
    refine z_icmp_ne (tgt := 44) S he dX10_show_37 (by decide) (fun he => ?_) (fun he => ?_)
    · refine z_iconst (v := 0) S dX10_show_44 (by decide) ?_
      exact p_X10_show_J45 S  he
    · refine z_iconst (v := 1) S dX10_show_40 (by decide) ?_
      refine z_goto (tgt := 45) S dX10_show_41 (by decide) ?_
      exact p_X10_show_J45 S  he
  · refine z_iconst (v := 0) S dX10_show_24 (by decide) ?_
    exact z_zret0 S (Prod.mk.inj (Option.some.inj he)) dX10_show_25
set_option maxRecDepth 100000 in
set_option maxHeartbeats 4000000 in
theorem K_X10_show {X : Cx} {l : Launch} {M : Mm} {a1 : Int32} {a2 : Int32} {r : Bool} {N : Mm}  (he : f_X10_show M a1 a2 = some (r, N)) : KI X 1 l yX10_show (wz yX10_show cX10_show 4 (some .boolean)) rm_X10_show [.ref (X.2.2 109), .int a1, .int a2] M (bI r) N := by
  intro sz
  refine K_of (Qc := (fun sz => QI X 1 (bI r) N sz)) (own := RX10) (lv0 := [(0, .ref (X.2.2 109)), (1, .int a1), (2, .int a2)]) (by decide +kernel) rfl (Nat.le_of_ble_eq_true rfl) rfl (fun p e s m args below meth c S => ?_) sz
  · unfold f_X10_show at he
    refine z_aload_n S dX10_show_0 rfl 0 rfl ?_
    refine z_aload_n S dX10_show_1 rfl 0 rfl ?_
    refine z_iload_n S dX10_show_2 rfl 1 rfl ?_
    obtain ⟨r1, h9, he⟩ := bnd he
    refine z_cVI (As := [.int a1]) S cv_RX10_285 (K_X10_isThing  h9) ok_109 (by decide) (q := (RX10, TX10, 28)) rfl rfl ⟨rfl, rfl⟩ ⟨Nat.le_of_ble_eq_true rfl, Nat.le_of_ble_eq_true rfl⟩ ⟨Nat.le_refl _, Nat.le_refl _⟩ rfl rfl (Nat.le_of_ble_eq_true rfl) dX10_show_3 ?_
    refine z_ifb_ne (tgt := 13) S he dX10_show_6 (by decide) (fun he => ?_) (fun he => ?_)
    · refine z_iconst (v := 0) S dX10_show_13 (by decide) ?_
      exact p_X10_show_J14 S  he
    · refine z_iconst (v := 1) S dX10_show_9 (by decide) ?_
      refine z_goto (tgt := 14) S dX10_show_10 (by decide) ?_
      exact p_X10_show_J14 S  he
set_option maxRecDepth 100000 in
set_option maxHeartbeats 4000000 in
theorem p_X10_span_L37 {X : Cx} {p : Program} {l : Launch} {e : Env} {s : State} {m : MethodId} {args : Array Value} {below : List Frame} {meth : Method} {c : Code} (S : SB X 1 p s m args meth c cX10_span 6 (some .int) RX10) {M : Mm} {N : Mm} {r : Int32} {v1 : Int32} {v2 : Int32} {v3 : Int32} {v4 : Int32} {x : (Mm × Int32 × Int32) ⊕ (Mm × Int32)}  (he : f_X10_span_L37 M v1 v2 v3 v4 = some x) (hc : ∀ b, x = .inl b → Z X 1 p l e rm_X10_span s m args below meth c 0 0 (MQ below (QI X 1 r N s.heap.size) args s 0 0 (AA X 1 s.heap.size)) 6 b.1 37 [(0, .ref (X.2.2 109)), (1, .int v1), (2, .int v2), (3, .int b.2.1), (4, .int b.2.2)] []) (hx : ∀ b, x = .inr b → Z X 1 p l e rm_X10_span s m args below meth c 0 0 (MQ below (QI X 1 r N s.heap.size) args s 0 0 (AA X 1 s.heap.size)) 6 b.1 100 [(3, .int b.2)] []) : Z X 1 p l e rm_X10_span s m args below meth c 0 0 (MQ below (QI X 1 r N s.heap.size) args s 0 0 (AA X 1 s.heap.size)) 6 M 37 [(0, .ref (X.2.2 109)), (1, .int v1), (2, .int v2), (3, .int v3), (4, .int v4)] [] := by
  unfold f_X10_span_L37 at he
  refine z_iload S dX10_span_37 4 rfl ?_
  refine z_bipush (v := 6) S dX10_span_39 (by decide) ?_
  refine z_icmp_gt (tgt := 100) S he dX10_span_41 (by decide) (fun he => ?_) (fun he => ?_)
  · refine z_lv (ks := [3]) rfl ?_
    exact hx _ (Option.some.inj he).symm
  · refine z_aload_n S dX10_span_44 rfl 0 rfl ?_
    refine z_getF (j := 110) S fo_RX10_7 1 rfl rfl ok_109 dX10_span_45 ?_
    refine z_bipush (v := 9) S dX10_span_48 (by decide) ?_
    refine z_iload S dX10_span_50 4 rfl ?_
    refine z_iastb S ok_110 rfl he dX10_span_52 (fun M3 he => ?_)
    refine z_aload_n S dX10_span_53 rfl 0 rfl ?_
    refine z_iload_n S dX10_span_54 rfl 1 rfl ?_
    obtain ⟨⟨r4, M5⟩, h9, he⟩ := bnd he
    dsimp only at he
    refine z_cVI (As := [.int v1]) S cv_RX10_309 (K_X10_goes  h9) ok_109 (by decide) (q := (RX10, TX10, 28)) rfl rfl ⟨rfl, rfl⟩ ⟨Nat.le_of_ble_eq_true rfl, Nat.le_of_ble_eq_true rfl⟩ ⟨Nat.le_refl _, Nat.le_refl _⟩ rfl rfl (Nat.le_of_ble_eq_true rfl) dX10_span_55 ?_
    refine z_istore (lv' := [(0, .ref (X.2.2 109)), (1, .int v1), (2, .int v2), (3, .int v3), (4, .int v4), (5, .int r4)]) S [1, 2, 3, 4, 5, 0] dX10_span_58 (by decide) rfl ?_
    refine z_aload_n S dX10_span_60 rfl 0 rfl ?_
    obtain ⟨M6, h9, he⟩ := bnd he
    refine z_cVV (As := []) S cv_RX10_181 (K_X10_comesBack  h9) ok_109 (by decide) (q := (RX10, TX10, 28)) rfl rfl ⟨rfl, rfl⟩ ⟨Nat.le_of_ble_eq_true rfl, Nat.le_of_ble_eq_true rfl⟩ ⟨Nat.le_refl _, Nat.le_refl _⟩ rfl rfl (Nat.le_of_ble_eq_true rfl) dX10_span_61 ?_
    refine z_iload_n S dX10_span_64 rfl 3 rfl ?_
    refine z_iconst (v := (-1)) S dX10_span_65 (by decide) ?_
    refine z_icmp_ne (tgt := 74) S he dX10_span_66 (by decide) (fun he => ?_) (fun he => ?_)
    · refine z_iload_n S dX10_span_74 rfl 2 rfl ?_
      refine z_if_eq (tgt := 87) S he dX10_span_75 (by decide) (fun he => ?_) (fun he => ?_)
      · refine z_iload_n S dX10_span_87 rfl 3 rfl ?_
        refine z_iload S dX10_span_88 5 rfl ?_
        refine z_cSI (As := [.int v3, .int r4]) S cs_RX10_279 (K_X10_lesser  rfl) ⟨rfl, rfl⟩ ⟨Nat.le_of_ble_eq_true rfl, Nat.le_of_ble_eq_true rfl⟩ ⟨Nat.le_refl _, Nat.le_refl _⟩ rfl rfl (Nat.le_of_ble_eq_true rfl) dX10_span_90 ?_
        obtain ⟨x7, ex7, he⟩ := bnd he
        rw [Option.some.inj ex7]
        refine z_istore_n (lv' := [(0, .ref (X.2.2 109)), (1, .int v1), (2, .int v2), (3, .int x7), (4, .int v4)]) S [1, 2, 3, 0, 4] dX10_span_93 rfl (by decide) rfl ?_
        refine z_iinc (v := (v4 + 1)) (lv' := [(0, .ref (X.2.2 109)), (1, .int v1), (2, .int v2), (3, .int x7), (4, .int (v4 + 1))]) S [1, 2, 3, 4, 0] 4 dX10_span_94 rfl (by rfl) (by decide) rfl ?_
        refine z_goto (tgt := 37) S dX10_span_97 (by decide) ?_
        refine z_lv (ks := [0, 1, 2, 3, 4]) rfl ?_
        exact hc _ (Option.some.inj he).symm
      · refine z_iload_n S dX10_span_78 rfl 3 rfl ?_
        refine z_iload S dX10_span_79 5 rfl ?_
        refine z_cSI (As := [.int v3, .int r4]) S cs_RX10_249 (K_X10_greater  rfl) ⟨rfl, rfl⟩ ⟨Nat.le_of_ble_eq_true rfl, Nat.le_of_ble_eq_true rfl⟩ ⟨Nat.le_refl _, Nat.le_refl _⟩ rfl rfl (Nat.le_of_ble_eq_true rfl) dX10_span_81 ?_
        refine z_goto (tgt := 93) S dX10_span_84 (by decide) ?_
        obtain ⟨x8, ex8, he⟩ := bnd he
        rw [Option.some.inj ex8]
        refine z_istore_n (lv' := [(0, .ref (X.2.2 109)), (1, .int v1), (2, .int v2), (3, .int x8), (4, .int v4)]) S [1, 2, 3, 0, 4] dX10_span_93 rfl (by decide) rfl ?_
        refine z_iinc (v := (v4 + 1)) (lv' := [(0, .ref (X.2.2 109)), (1, .int v1), (2, .int v2), (3, .int x8), (4, .int (v4 + 1))]) S [1, 2, 3, 4, 0] 4 dX10_span_94 rfl (by rfl) (by decide) rfl ?_
        refine z_goto (tgt := 37) S dX10_span_97 (by decide) ?_
        refine z_lv (ks := [0, 1, 2, 3, 4]) rfl ?_
        exact hc _ (Option.some.inj he).symm
    · refine z_iload S dX10_span_69 5 rfl ?_
      refine z_goto (tgt := 93) S dX10_span_71 (by decide) ?_
      refine z_istore_n (lv' := [(0, .ref (X.2.2 109)), (1, .int v1), (2, .int v2), (3, .int r4), (4, .int v4)]) S [1, 2, 3, 0, 4] dX10_span_93 rfl (by decide) rfl ?_
      refine z_iinc (v := (v4 + 1)) (lv' := [(0, .ref (X.2.2 109)), (1, .int v1), (2, .int v2), (3, .int r4), (4, .int (v4 + 1))]) S [1, 2, 3, 4, 0] 4 dX10_span_94 rfl (by rfl) (by decide) rfl ?_
      refine z_goto (tgt := 37) S dX10_span_97 (by decide) ?_
      refine z_lv (ks := [0, 1, 2, 3, 4]) rfl ?_
      exact hc _ (Option.some.inj he).symm
set_option maxRecDepth 100000 in
set_option maxHeartbeats 4000000 in
theorem p_X10_span_J16 {X : Cx} {p : Program} {l : Launch} {e : Env} {s : State} {m : MethodId} {args : Array Value} {below : List Frame} {meth : Method} {c : Code} (S : SB X 1 p s m args meth c cX10_span 6 (some .int) RX10) {M : Mm} {N : Mm} {r : Int32} {v1 : Int32} {v2 : Int32} {t0 : Int32}  (he : f_X10_span_J16 M v1 v2 t0 = some (r, N)) : Z X 1 p l e rm_X10_span s m args below meth c 0 0 (MQ below (QI X 1 r N s.heap.size) args s 0 0 (AA X 1 s.heap.size)) 6 M 16 [(0, .ref (X.2.2 109)), (1, .int v1), (2, .int v2)] [.int t0, .ref (X.2.2 109)] := by
  unfold f_X10_span_J16 at he
  refine z_putIb S fo_RX10_63p rfl ok_109 rfl rfl he dX10_span_16 (fun M1 he => ?_)
  refine z_aload_n S dX10_span_19 rfl 0 rfl ?_
  refine z_getI S fo_RX10_63 rfl ok_109 dX10_span_20 ?_
  refine z_if_le (tgt := 28) S he dX10_span_23 (by decide) (fun he => ?_) (fun he => ?_)
  · refine z_aload_n S dX10_span_28 rfl 0 rfl ?_
    obtain ⟨M2, h9, he⟩ := bnd he
    refine z_cVV (As := []) S cv_RX10_171 (K_X10_putsAside  h9) ok_109 (by decide) (q := (RX10, TX10, 28)) rfl rfl ⟨rfl, rfl⟩ ⟨Nat.le_of_ble_eq_true rfl, Nat.le_of_ble_eq_true rfl⟩ ⟨Nat.le_refl _, Nat.le_refl _⟩ rfl rfl (Nat.le_of_ble_eq_true rfl) dX10_span_29 ?_
    refine z_iconst (v := (-1)) S dX10_span_32 (by decide) ?_
    refine z_istore_n (lv' := [(0, .ref (X.2.2 109)), (1, .int v1), (2, .int v2), (3, .int (-1))]) S [1, 2, 3, 0] dX10_span_33 rfl (by decide) rfl ?_
    refine z_iconst (v := 1) S dX10_span_34 (by decide) ?_
    refine z_istore (lv' := [(0, .ref (X.2.2 109)), (1, .int v1), (2, .int v2), (3, .int (-1)), (4, .int 1)]) S [1, 2, 3, 4, 0] dX10_span_35 (by decide) rfl ?_
    obtain ⟨e_9, hl, he⟩ := bnd he
    have hX : Z X 1 p l e rm_X10_span s m args below meth c 0 0 (MQ below (QI X 1 r N s.heap.size) args s 0 0 (AA X 1 s.heap.size)) 6 e_9.1 100 [(3, .int e_9.2)] [] := by
      refine z_iload_n S dX10_span_100 rfl 0 rfl ?_
      exact z_iret S (Prod.mk.inj (Option.some.inj he)) dX10_span_101
    have hZ9 := loopZ (f := (fun a_9 => f_X10_span_L37 a_9.1 v1 v2 a_9.2.1 a_9.2.2)) (Zh := (fun a_9 => Z X 1 p l e rm_X10_span s m args below meth c 0 0 (MQ below (QI X 1 r N s.heap.size) args s 0 0 (AA X 1 s.heap.size)) 6 a_9.1 37 [(0, .ref (X.2.2 109)), (1, .int v1), (2, .int v2), (3, .int a_9.2.1), (4, .int a_9.2.2)] [])) (fun a_9 x hb hc hr => p_X10_span_L37 S  hb hc (fun b hxe => by rw [hr b hxe]; exact hX)) FU (M2, (-1), 1) hl
    exact hZ9
  · refine z_iconst (v := 0) S dX10_span_26 (by decide) ?_
    exact z_iret S (Prod.mk.inj (Option.some.inj he)) dX10_span_27
set_option maxRecDepth 100000 in
set_option maxHeartbeats 4000000 in
theorem K_X10_span {X : Cx} {l : Launch} {M : Mm} {a1 : Int32} {a2 : Int32} {r : Int32} {N : Mm}  (he : f_X10_span M a1 a2 = some (r, N)) : KI X 1 l yX10_span (wz yX10_span cX10_span 6 (some .int)) rm_X10_span [.ref (X.2.2 109), .int a1, .int a2] M r N := by
  intro sz
  refine K_of (Qc := (fun sz => QI X 1 r N sz)) (own := RX10) (lv0 := [(0, .ref (X.2.2 109)), (1, .int a1), (2, .int a2)]) (by decide +kernel) rfl (Nat.le_of_ble_eq_true rfl) rfl (fun p e s m args below meth c S => ?_) sz
  · unfold f_X10_span at he
    refine z_aload_n S dX10_span_0 rfl 0 rfl ?_
    refine z_iload_n S dX10_span_1 rfl 1 rfl ?_
    refine z_iconst (v := 0) S dX10_span_2 (by decide) ?_
    refine z_bipush (v := 30) S dX10_span_3 (by decide) ?_
    refine z_cSI (As := [.int a1, .int 0, .int 30]) S cs_RX10_66 (K_X10_isIn  rfl) ⟨rfl, rfl⟩ ⟨Nat.le_of_ble_eq_true rfl, Nat.le_of_ble_eq_true rfl⟩ ⟨Nat.le_refl _, Nat.le_refl _⟩ rfl rfl (Nat.le_of_ble_eq_true rfl) dX10_span_5 ?_
    refine z_ifb_ne (tgt := 15) S he dX10_span_8 (by decide) (fun he => ?_) (fun he => ?_)
    · refine z_iconst (v := 0) S dX10_span_15 (by decide) ?_
      exact p_X10_span_J16 S  he
    · refine z_iconst (v := 1) S dX10_span_11 (by decide) ?_
      refine z_goto (tgt := 16) S dX10_span_12 (by decide) ?_
      exact p_X10_span_J16 S  he
set_option maxRecDepth 100000 in
set_option maxHeartbeats 4000000 in
theorem p_X10_steps_J21 {X : Cx} {p : Program} {l : Launch} {e : Env} {s : State} {m : MethodId} {args : Array Value} {below : List Frame} {meth : Method} {c : Code} (S : SB X 1 p s m args meth c cX10_steps 2 (some .int) RX10) {M : Mm} {N : Mm} {r : Int32} {v1 : Int32} {t0 : Int32}  (he : f_X10_steps_J21 M v1 t0 = some (r, N)) : Z X 1 p l e rm_X10_steps s m args below meth c 0 0 (MQ below (QI X 1 r N s.heap.size) args s 0 0 (AA X 1 s.heap.size)) 2 M 21 [(0, .ref (X.2.2 109)), (1, .int v1)] [.int t0, .ref (X.2.2 109)] := by
  unfold f_X10_steps_J21 at he
  refine z_putIb S fo_RX10_63p rfl ok_109 rfl rfl he dX10_steps_21 (fun M1 he => ?_)
  refine z_aload_n S dX10_steps_24 rfl 0 rfl ?_
  refine z_getI S fo_RX10_63 rfl ok_109 dX10_steps_25 ?_
  refine z_if_le (tgt := 33) S he dX10_steps_28 (by decide) (fun he => ?_) (fun he => ?_)
  · refine z_iload_n S dX10_steps_33 rfl 1 rfl ?_
    refine z_iconst (v := (-1)) S dX10_steps_34 (by decide) ?_
    refine z_icmp_ne (tgt := 59) S he dX10_steps_35 (by decide) (fun he => ?_) (fun he => ?_)
    · refine z_iload_n S dX10_steps_59 rfl 1 rfl ?_
      refine z_aload_n S dX10_steps_60 rfl 0 rfl ?_
      refine z_getF (j := 110) S fo_RX10_7 1 rfl rfl ok_109 dX10_steps_61 ?_
      refine z_iconst (v := 5) S dX10_steps_64 (by decide) ?_
      refine z_iald S ok_110 rfl he dX10_steps_65 (fun he => ?_)
      obtain ⟨hy9, he⟩ := grd he
      refine z_idiv S hy9 dX10_steps_66 ?_
      exact z_iret S (Prod.mk.inj (Option.some.inj he)) dX10_steps_67
    · refine z_bipush (v := 20) S dX10_steps_38 (by decide) ?_
      refine z_aload_n S dX10_steps_40 rfl 0 rfl ?_
      refine z_getF (j := 110) S fo_RX10_7 1 rfl rfl ok_109 dX10_steps_41 ?_
      refine z_iconst (v := 5) S dX10_steps_44 (by decide) ?_
      refine z_iald S ok_110 rfl he dX10_steps_45 (fun he => ?_)
      refine z_iadd S dX10_steps_46 ?_
      refine z_iconst (v := 1) S dX10_steps_47 (by decide) ?_
      refine z_isub S dX10_steps_48 ?_
      refine z_aload_n S dX10_steps_49 rfl 0 rfl ?_
      refine z_getF (j := 110) S fo_RX10_7 1 rfl rfl ok_109 dX10_steps_50 ?_
      refine z_iconst (v := 5) S dX10_steps_53 (by decide) ?_
      refine z_iald S ok_110 rfl he dX10_steps_54 (fun he => ?_)
      obtain ⟨hy9, he⟩ := grd he
      refine z_idiv S hy9 dX10_steps_55 ?_
      refine z_goto (tgt := 67) S dX10_steps_56 (by decide) ?_
      exact z_iret S (Prod.mk.inj (Option.some.inj he)) dX10_steps_67
  · refine z_iconst (v := 0) S dX10_steps_31 (by decide) ?_
    exact z_iret S (Prod.mk.inj (Option.some.inj he)) dX10_steps_32
set_option maxRecDepth 100000 in
set_option maxHeartbeats 4000000 in
theorem p_X10_steps_J20 {X : Cx} {p : Program} {l : Launch} {e : Env} {s : State} {m : MethodId} {args : Array Value} {below : List Frame} {meth : Method} {c : Code} (S : SB X 1 p s m args meth c cX10_steps 2 (some .int) RX10) {M : Mm} {N : Mm} {r : Int32} {v1 : Int32}  (he : f_X10_steps_J20 M v1 = some (r, N)) : Z X 1 p l e rm_X10_steps s m args below meth c 0 0 (MQ below (QI X 1 r N s.heap.size) args s 0 0 (AA X 1 s.heap.size)) 2 M 20 [(0, .ref (X.2.2 109)), (1, .int v1)] [.ref (X.2.2 109)] := by
  unfold f_X10_steps_J20 at he
  refine z_iconst (v := 0) S dX10_steps_20 (by decide) ?_
  exact p_X10_steps_J21 S  he
set_option maxRecDepth 100000 in
set_option maxHeartbeats 4000000 in
theorem K_X10_steps {X : Cx} {l : Launch} {M : Mm} {a1 : Int32} {r : Int32} {N : Mm}  (he : f_X10_steps M a1 = some (r, N)) : KI X 1 l yX10_steps (wz yX10_steps cX10_steps 2 (some .int)) rm_X10_steps [.ref (X.2.2 109), .int a1] M r N := by
  intro sz
  refine K_of (Qc := (fun sz => QI X 1 r N sz)) (own := RX10) (lv0 := [(0, .ref (X.2.2 109)), (1, .int a1)]) (by decide +kernel) rfl (Nat.le_of_ble_eq_true rfl) rfl (fun p e s m args below meth c S => ?_) sz
  · unfold f_X10_steps at he
    refine z_aload_n S dX10_steps_0 rfl 0 rfl ?_
    refine z_iload_n S dX10_steps_1 rfl 1 rfl ?_
    refine z_iconst (v := (-1)) S dX10_steps_2 (by decide) ?_
    refine z_icmp_eq (tgt := 20) S he dX10_steps_3 (by decide) (fun he => ?_) (fun he => ?_)
    · exact p_X10_steps_J20 S  he
    · refine z_iload_n S dX10_steps_6 rfl 1 rfl ?_
      refine z_iconst (v := 0) S dX10_steps_7 (by decide) ?_
      refine z_bipush (v := 19) S dX10_steps_8 (by decide) ?_
      refine z_cSI (As := [.int a1, .int 0, .int 19]) S cs_RX10_66 (K_X10_isIn  rfl) ⟨rfl, rfl⟩ ⟨Nat.le_of_ble_eq_true rfl, Nat.le_of_ble_eq_true rfl⟩ ⟨Nat.le_refl _, Nat.le_refl _⟩ rfl rfl (Nat.le_of_ble_eq_true rfl) dX10_steps_10 ?_
      refine z_ifb_ne (tgt := 20) S he dX10_steps_13 (by decide) (fun he => ?_) (fun he => ?_)
      · exact p_X10_steps_J20 S  he
      · refine z_iconst (v := 1) S dX10_steps_16 (by decide) ?_
        refine z_goto (tgt := 21) S dX10_steps_17 (by decide) ?_
        exact p_X10_steps_J21 S  he
set_option maxRecDepth 100000 in
set_option maxHeartbeats 4000000 in
theorem p_X10_thing_J28 {X : Cx} {p : Program} {l : Launch} {e : Env} {s : State} {m : MethodId} {args : Array Value} {below : List Frame} {meth : Method} {c : Code} (S : SB X 1 p s m args meth c cX10_thing 3 (some .int) RX10) {M : Mm} {N : Mm} {r : Int32} {v1 : Int32} {v2 : Int32} {t0 : Int32}  (he : f_X10_thing_J28 M v1 v2 t0 = some (r, N)) : Z X 1 p l e rm_X10_thing s m args below meth c 0 0 (MQ below (QI X 1 r N s.heap.size) args s 0 0 (AA X 1 s.heap.size)) 3 M 28 [(0, .ref (X.2.2 109)), (1, .int v1), (2, .int v2)] [.int t0, .ref (X.2.2 109)] := by
  unfold f_X10_thing_J28 at he
  refine z_putIb S fo_RX10_63p rfl ok_109 rfl rfl he dX10_thing_28 (fun M2 he => ?_)
  refine z_aload_n S dX10_thing_31 rfl 0 rfl ?_
  refine z_getI S fo_RX10_63 rfl ok_109 dX10_thing_32 ?_
  refine z_if_le (tgt := 40) S he dX10_thing_35 (by decide) (fun he => ?_) (fun he => ?_)
  · refine z_iload_n S dX10_thing_40 rfl 2 rfl ?_
    refine z_iconst (v := 5) S dX10_thing_41 (by decide) ?_
    refine z_icmp_ge (tgt := 52) S he dX10_thing_42 (by decide) (fun he => ?_) (fun he => ?_)
    · refine z_aload_n S dX10_thing_52 rfl 0 rfl ?_
      obtain ⟨M3, h9, he⟩ := bnd he
      refine z_cVV (As := []) S cv_RX10_288 (K_X10_tomorrow  h9) ok_109 (by decide) (q := (RX10, TX10, 28)) rfl rfl ⟨rfl, rfl⟩ ⟨Nat.le_of_ble_eq_true rfl, Nat.le_of_ble_eq_true rfl⟩ ⟨Nat.le_refl _, Nat.le_refl _⟩ rfl rfl (Nat.le_of_ble_eq_true rfl) dX10_thing_53 ?_
      refine z_iload_n S dX10_thing_56 rfl 2 rfl ?_
      refine z_iconst (v := 5) S dX10_thing_57 (by decide) ?_
      refine z_icmp_ne (tgt := 69) S he dX10_thing_58 (by decide) (fun he => ?_) (fun he => ?_)
      · refine z_iload_n S dX10_thing_69 rfl 2 rfl ?_
        refine z_bipush (v := 6) S dX10_thing_70 (by decide) ?_
        refine z_icmp_ne (tgt := 83) S he dX10_thing_72 (by decide) (fun he => ?_) (fun he => ?_)
        · refine z_aload_n S dX10_thing_83 rfl 0 rfl ?_
          refine z_iload_n S dX10_thing_84 rfl 1 rfl ?_
          obtain ⟨r4, h9, he⟩ := bnd he
          refine z_cVI (As := [.int v1]) S cv_RX10_297 (K_X10_envy  h9) ok_109 (by decide) (q := (RX10, TX10, 28)) rfl rfl ⟨rfl, rfl⟩ ⟨Nat.le_of_ble_eq_true rfl, Nat.le_of_ble_eq_true rfl⟩ ⟨Nat.le_refl _, Nat.le_refl _⟩ rfl rfl (Nat.le_of_ble_eq_true rfl) dX10_thing_85 ?_
          exact z_iret S (Prod.mk.inj (Option.some.inj he)) dX10_thing_88
        · refine z_aload_n S dX10_thing_75 rfl 0 rfl ?_
          refine z_iload_n S dX10_thing_76 rfl 1 rfl ?_
          obtain ⟨r5, h9, he⟩ := bnd he
          refine z_cVI (As := [.int v1]) S cv_RX10_294 (K_X10_hadBy  h9) ok_109 (by decide) (q := (RX10, TX10, 28)) rfl rfl ⟨rfl, rfl⟩ ⟨Nat.le_of_ble_eq_true rfl, Nat.le_of_ble_eq_true rfl⟩ ⟨Nat.le_refl _, Nat.le_refl _⟩ rfl rfl (Nat.le_of_ble_eq_true rfl) dX10_thing_77 ?_
          refine z_goto (tgt := 88) S dX10_thing_80 (by decide) ?_
          exact z_iret S (Prod.mk.inj (Option.some.inj he)) dX10_thing_88
      · refine z_aload_n S dX10_thing_61 rfl 0 rfl ?_
        refine z_iload_n S dX10_thing_62 rfl 1 rfl ?_
        obtain ⟨r6, h9, he⟩ := bnd he
        refine z_cVI (As := [.int v1]) S cv_RX10_291 (K_X10_ringsFor  h9) ok_109 (by decide) (q := (RX10, TX10, 28)) rfl rfl ⟨rfl, rfl⟩ ⟨Nat.le_of_ble_eq_true rfl, Nat.le_of_ble_eq_true rfl⟩ ⟨Nat.le_refl _, Nat.le_refl _⟩ rfl rfl (Nat.le_of_ble_eq_true rfl) dX10_thing_63 ?_
        refine z_goto (tgt := 88) S dX10_thing_66 (by decide) ?_
        exact z_iret S (Prod.mk.inj (Option.some.inj he)) dX10_thing_88
    · refine z_aload_n S dX10_thing_45 rfl 0 rfl ?_
      refine z_iload_n S dX10_thing_46 rfl 1 rfl ?_
      refine z_iload_n S dX10_thing_47 rfl 2 rfl ?_
      obtain ⟨r7, h9, he⟩ := bnd he
      refine z_cVI (As := [.int v1, .int v2]) S cv_RX10_70 (K_X10_of  h9) ok_109 (by decide) (q := (RX10, TX10, 28)) rfl rfl ⟨rfl, rfl⟩ ⟨Nat.le_of_ble_eq_true rfl, Nat.le_of_ble_eq_true rfl⟩ ⟨Nat.le_refl _, Nat.le_refl _⟩ rfl rfl (Nat.le_of_ble_eq_true rfl) dX10_thing_48 ?_
      exact z_iret S (Prod.mk.inj (Option.some.inj he)) dX10_thing_51
  · refine z_iconst (v := 0) S dX10_thing_38 (by decide) ?_
    exact z_iret S (Prod.mk.inj (Option.some.inj he)) dX10_thing_39
set_option maxRecDepth 100000 in
set_option maxHeartbeats 4000000 in
theorem K_X10_thing {X : Cx} {l : Launch} {M : Mm} {a1 : Int32} {a2 : Int32} {r : Int32} {N : Mm}  (he : f_X10_thing M a1 a2 = some (r, N)) : KI X 1 l yX10_thing (wz yX10_thing cX10_thing 3 (some .int)) rm_X10_thing [.ref (X.2.2 109), .int a1, .int a2] M r N := by
  intro sz
  refine K_of (Qc := (fun sz => QI X 1 r N sz)) (own := RX10) (lv0 := [(0, .ref (X.2.2 109)), (1, .int a1), (2, .int a2)]) (by decide +kernel) rfl (Nat.le_of_ble_eq_true rfl) rfl (fun p e s m args below meth c S => ?_) sz
  · unfold f_X10_thing at he
    refine z_aload_n S dX10_thing_0 rfl 0 rfl ?_
    refine z_aload_n S dX10_thing_1 rfl 0 rfl ?_
    refine z_iload_n S dX10_thing_2 rfl 1 rfl ?_
    obtain ⟨r1, h9, he⟩ := bnd he
    refine z_cVI (As := [.int a1]) S cv_RX10_285 (K_X10_isThing  h9) ok_109 (by decide) (q := (RX10, TX10, 28)) rfl rfl ⟨rfl, rfl⟩ ⟨Nat.le_of_ble_eq_true rfl, Nat.le_of_ble_eq_true rfl⟩ ⟨Nat.le_refl _, Nat.le_refl _⟩ rfl rfl (Nat.le_of_ble_eq_true rfl) dX10_thing_3 ?_
    refine z_ifb_ne (tgt := 13) S he dX10_thing_6 (by decide) (fun he => ?_) (fun he => ?_)
    · refine z_iload_n S dX10_thing_13 rfl 2 rfl ?_
      refine z_iconst (v := 0) S dX10_thing_14 (by decide) ?_
      refine z_bipush (v := 7) S dX10_thing_15 (by decide) ?_
      refine z_cSI (As := [.int a2, .int 0, .int 7]) S cs_RX10_66 (K_X10_isIn  rfl) ⟨rfl, rfl⟩ ⟨Nat.le_of_ble_eq_true rfl, Nat.le_of_ble_eq_true rfl⟩ ⟨Nat.le_refl _, Nat.le_refl _⟩ rfl rfl (Nat.le_of_ble_eq_true rfl) dX10_thing_17 ?_
      refine z_ifb_ne (tgt := 27) S he dX10_thing_20 (by decide) (fun he => ?_) (fun he => ?_)
      · refine z_iconst (v := 0) S dX10_thing_27 (by decide) ?_
        exact p_X10_thing_J28 S  he
      · refine z_iconst (v := 2) S dX10_thing_23 (by decide) ?_
        refine z_goto (tgt := 28) S dX10_thing_24 (by decide) ?_
        exact p_X10_thing_J28 S  he
    · refine z_iconst (v := 1) S dX10_thing_9 (by decide) ?_
      refine z_goto (tgt := 28) S dX10_thing_10 (by decide) ?_
      exact p_X10_thing_J28 S  he
set_option maxRecDepth 100000 in
set_option maxHeartbeats 4000000 in
theorem K_X10_thrown {X : Cx} {l : Launch} {M : Mm} {r : Int32}  (he : f_X10_thrown M  = r) : KI X 1 l yX10_thrown (wz yX10_thrown cX10_thrown 1 (some .int)) rm_X10_thrown [.ref (X.2.2 109)] M r M := by
  intro sz
  refine K_of (Qc := (fun sz => QI X 1 r M sz)) (own := RX10) (lv0 := [(0, .ref (X.2.2 109))]) (by decide +kernel) rfl (Nat.le_of_ble_eq_true rfl) rfl (fun p e s m args below meth c S => ?_) sz
  · unfold f_X10_thrown at he
    refine z_aload_n S dX10_thrown_0 rfl 0 rfl ?_
    refine z_getI S fo_RX10_63 rfl ok_109 dX10_thrown_1 ?_
    exact z_iret S (⟨he, rfl⟩) dX10_thrown_4
set_option maxRecDepth 100000 in
set_option maxHeartbeats 4000000 in
theorem p_X10_trade_L48 {X : Cx} {p : Program} {l : Launch} {e : Env} {s : State} {m : MethodId} {args : Array Value} {below : List Frame} {meth : Method} {c : Code} (S : SB X 1 p s m args meth c cX10_trade 5 none RX10) {M : Mm} {N : Mm} {v1 : Int32} {v2 : Int32} {v3 : Int32} {x : (Mm × Int32) ⊕ Mm}  (he : f_X10_trade_L48 M v1 v2 v3 = some x) (hc : ∀ b, x = .inl b → Z X 1 p l e rm_X10_trade s m args below meth c 0 0 (MQ below (QV X 1 N s.heap.size) args s 0 0 (AA X 1 s.heap.size)) 5 b.1 48 [(0, .ref (X.2.2 109)), (1, .int v1), (2, .int v2), (3, .int b.2)] []) (hx : ∀ b, x = .inr b → Z X 1 p l e rm_X10_trade s m args below meth c 0 0 (MQ below (QV X 1 N s.heap.size) args s 0 0 (AA X 1 s.heap.size)) 5 b 101 [] []) : Z X 1 p l e rm_X10_trade s m args below meth c 0 0 (MQ below (QV X 1 N s.heap.size) args s 0 0 (AA X 1 s.heap.size)) 5 M 48 [(0, .ref (X.2.2 109)), (1, .int v1), (2, .int v2), (3, .int v3)] [] := by
  unfold f_X10_trade_L48 at he
  refine z_iload_n S dX10_trade_48 rfl 3 rfl ?_
  refine z_iconst (v := 5) S dX10_trade_49 (by decide) ?_
  refine z_icmp_ge (tgt := 101) S he dX10_trade_50 (by decide) (fun he => ?_) (fun he => ?_)
  · refine z_lv (ks := []) rfl ?_
    exact hx _ (Option.some.inj he).symm
  · refine z_aload_n S dX10_trade_53 rfl 0 rfl ?_
    refine z_iload_n S dX10_trade_54 rfl 1 rfl ?_
    refine z_iload_n S dX10_trade_55 rfl 3 rfl ?_
    obtain ⟨r4, h9, he⟩ := bnd he
    refine z_cVI (As := [.int v1, .int v3]) S cv_RX10_246 (K_X10_ofOne  h9) ok_109 (by decide) (q := (RX10, TX10, 28)) rfl rfl ⟨rfl, rfl⟩ ⟨Nat.le_of_ble_eq_true rfl, Nat.le_of_ble_eq_true rfl⟩ ⟨Nat.le_refl _, Nat.le_refl _⟩ rfl rfl (Nat.le_of_ble_eq_true rfl) dX10_trade_56 ?_
    refine z_istore (lv' := [(0, .ref (X.2.2 109)), (1, .int v1), (2, .int v2), (3, .int v3), (4, .int r4)]) S [1, 2, 3, 4, 0] dX10_trade_59 (by decide) rfl ?_
    refine z_aload_n S dX10_trade_61 rfl 0 rfl ?_
    refine z_getF (j := 110) S fo_RX10_7 1 rfl rfl ok_109 dX10_trade_62 ?_
    refine z_bipush (v := 57) S dX10_trade_65 (by decide) ?_
    refine z_iconst (v := 5) S dX10_trade_67 (by decide) ?_
    refine z_iload_n S dX10_trade_68 rfl 1 rfl ?_
    refine z_imul S dX10_trade_69 ?_
    refine z_iadd S dX10_trade_70 ?_
    refine z_iload_n S dX10_trade_71 rfl 3 rfl ?_
    refine z_iadd S dX10_trade_72 ?_
    refine z_aload_n S dX10_trade_73 rfl 0 rfl ?_
    refine z_iload_n S dX10_trade_74 rfl 2 rfl ?_
    refine z_iload_n S dX10_trade_75 rfl 3 rfl ?_
    obtain ⟨r5, h9, he⟩ := bnd he
    refine z_cVI (As := [.int v2, .int v3]) S cv_RX10_246 (K_X10_ofOne  h9) ok_109 (by decide) (q := (RX10, TX10, 28)) rfl rfl ⟨rfl, rfl⟩ ⟨Nat.le_of_ble_eq_true rfl, Nat.le_of_ble_eq_true rfl⟩ ⟨Nat.le_refl _, Nat.le_refl _⟩ rfl rfl (Nat.le_of_ble_eq_true rfl) dX10_trade_76 ?_
    refine z_iastb S ok_110 rfl he dX10_trade_79 (fun M6 he => ?_)
    refine z_aload_n S dX10_trade_80 rfl 0 rfl ?_
    refine z_getF (j := 110) S fo_RX10_7 1 rfl rfl ok_109 dX10_trade_81 ?_
    refine z_bipush (v := 57) S dX10_trade_84 (by decide) ?_
    refine z_iconst (v := 5) S dX10_trade_86 (by decide) ?_
    refine z_iload_n S dX10_trade_87 rfl 2 rfl ?_
    refine z_imul S dX10_trade_88 ?_
    refine z_iadd S dX10_trade_89 ?_
    refine z_iload_n S dX10_trade_90 rfl 3 rfl ?_
    refine z_iadd S dX10_trade_91 ?_
    refine z_iload S dX10_trade_92 4 rfl ?_
    refine z_iastb S ok_110 rfl he dX10_trade_94 (fun M7 he => ?_)
    refine z_iinc (v := (v3 + 1)) (lv' := [(0, .ref (X.2.2 109)), (1, .int v1), (2, .int v2), (3, .int (v3 + 1)), (4, .int r4)]) S [1, 2, 3, 0, 4] 3 dX10_trade_95 rfl (by rfl) (by decide) rfl ?_
    refine z_goto (tgt := 48) S dX10_trade_98 (by decide) ?_
    refine z_lv (ks := [0, 1, 2, 3]) rfl ?_
    exact hc _ (Option.some.inj he).symm
set_option maxRecDepth 100000 in
set_option maxHeartbeats 4000000 in
theorem p_X10_trade_J31 {X : Cx} {p : Program} {l : Launch} {e : Env} {s : State} {m : MethodId} {args : Array Value} {below : List Frame} {meth : Method} {c : Code} (S : SB X 1 p s m args meth c cX10_trade 5 none RX10) {M : Mm} {N : Mm} {v1 : Int32} {v2 : Int32} {t0 : Int32}  (he : f_X10_trade_J31 M v1 v2 t0 = some N) : Z X 1 p l e rm_X10_trade s m args below meth c 0 0 (MQ below (QV X 1 N s.heap.size) args s 0 0 (AA X 1 s.heap.size)) 5 M 31 [(0, .ref (X.2.2 109)), (1, .int v1), (2, .int v2)] [.int t0, .ref (X.2.2 109)] := by
  unfold f_X10_trade_J31 at he
  refine z_putIb S fo_RX10_63p rfl ok_109 rfl rfl he dX10_trade_31 (fun M2 he => ?_)
  refine z_aload_n S dX10_trade_34 rfl 0 rfl ?_
  refine z_getI S fo_RX10_63 rfl ok_109 dX10_trade_35 ?_
  refine z_if_le (tgt := 42) S he dX10_trade_38 (by decide) (fun he => ?_) (fun he => ?_)
  · refine z_aload_n S dX10_trade_42 rfl 0 rfl ?_
    obtain ⟨M3, h9, he⟩ := bnd he
    refine z_cVV (As := []) S cv_RX10_306 (K_X10_remembers  h9) ok_109 (by decide) (q := (RX10, TX10, 28)) rfl rfl ⟨rfl, rfl⟩ ⟨Nat.le_of_ble_eq_true rfl, Nat.le_of_ble_eq_true rfl⟩ ⟨Nat.le_refl _, Nat.le_refl _⟩ rfl rfl (Nat.le_of_ble_eq_true rfl) dX10_trade_43 ?_
    refine z_iconst (v := 0) S dX10_trade_46 (by decide) ?_
    refine z_istore_n (lv' := [(0, .ref (X.2.2 109)), (1, .int v1), (2, .int v2), (3, .int 0)]) S [1, 2, 3, 0] dX10_trade_47 rfl (by decide) rfl ?_
    obtain ⟨e_8, hl, he⟩ := bnd he
    have hX : Z X 1 p l e rm_X10_trade s m args below meth c 0 0 (MQ below (QV X 1 N s.heap.size) args s 0 0 (AA X 1 s.heap.size)) 5 e_8 101 [] [] := by
      exact z_vret S (Option.some.inj he) dX10_trade_101
    have hZ9 := loopZ (f := (fun a_8 => f_X10_trade_L48 a_8.1 v1 v2 a_8.2)) (Zh := (fun a_8 => Z X 1 p l e rm_X10_trade s m args below meth c 0 0 (MQ below (QV X 1 N s.heap.size) args s 0 0 (AA X 1 s.heap.size)) 5 a_8.1 48 [(0, .ref (X.2.2 109)), (1, .int v1), (2, .int v2), (3, .int a_8.2)] [])) (fun a_8 x hb hc hr => p_X10_trade_L48 S  hb hc (fun b hxe => by rw [hr b hxe]; exact hX)) FU (M3, 0) hl
    exact hZ9
  · exact z_vret S (Option.some.inj he) dX10_trade_41
set_option maxRecDepth 100000 in
set_option maxHeartbeats 4000000 in
theorem p_X10_trade_J17 {X : Cx} {p : Program} {l : Launch} {e : Env} {s : State} {m : MethodId} {args : Array Value} {below : List Frame} {meth : Method} {c : Code} (S : SB X 1 p s m args meth c cX10_trade 5 none RX10) {M : Mm} {N : Mm} {v1 : Int32} {v2 : Int32}  (he : f_X10_trade_J17 M v1 v2 = some N) : Z X 1 p l e rm_X10_trade s m args below meth c 0 0 (MQ below (QV X 1 N s.heap.size) args s 0 0 (AA X 1 s.heap.size)) 5 M 17 [(0, .ref (X.2.2 109)), (1, .int v1), (2, .int v2)] [.ref (X.2.2 109)] := by
  unfold f_X10_trade_J17 at he
  refine z_iconst (v := 1) S dX10_trade_17 (by decide) ?_
  refine z_goto (tgt := 31) S dX10_trade_18 (by decide) ?_
  exact p_X10_trade_J31 S  he
set_option maxRecDepth 100000 in
set_option maxHeartbeats 4000000 in
theorem K_X10_trade {X : Cx} {l : Launch} {M : Mm} {a1 : Int32} {a2 : Int32} {N : Mm}  (he : f_X10_trade M a1 a2 = some N) : KV X 1 l yX10_trade (wz yX10_trade cX10_trade 5 none) rm_X10_trade [.ref (X.2.2 109), .int a1, .int a2] M N := by
  intro sz
  refine K_of (Qc := (fun sz => QV X 1 N sz)) (own := RX10) (lv0 := [(0, .ref (X.2.2 109)), (1, .int a1), (2, .int a2)]) (by decide +kernel) rfl (Nat.le_of_ble_eq_true rfl) rfl (fun p e s m args below meth c S => ?_) sz
  · unfold f_X10_trade at he
    refine z_aload_n S dX10_trade_0 rfl 0 rfl ?_
    refine z_aload_n S dX10_trade_1 rfl 0 rfl ?_
    refine z_iload_n S dX10_trade_2 rfl 1 rfl ?_
    obtain ⟨r1, h9, he⟩ := bnd he
    refine z_cVI (As := [.int a1]) S cv_RX10_300 (K_X10_isVisitor  h9) ok_109 (by decide) (q := (RX10, TX10, 28)) rfl rfl ⟨rfl, rfl⟩ ⟨Nat.le_of_ble_eq_true rfl, Nat.le_of_ble_eq_true rfl⟩ ⟨Nat.le_refl _, Nat.le_refl _⟩ rfl rfl (Nat.le_of_ble_eq_true rfl) dX10_trade_3 ?_
    refine z_ifb_eq (tgt := 17) S he dX10_trade_6 (by decide) (fun he => ?_) (fun he => ?_)
    · exact p_X10_trade_J17 S  he
    · refine z_aload_n S dX10_trade_9 rfl 0 rfl ?_
      refine z_iload_n S dX10_trade_10 rfl 2 rfl ?_
      obtain ⟨r9, h9, he⟩ := bnd he
      refine z_cVI (As := [.int a2]) S cv_RX10_300 (K_X10_isVisitor  h9) ok_109 (by decide) (q := (RX10, TX10, 28)) rfl rfl ⟨rfl, rfl⟩ ⟨Nat.le_of_ble_eq_true rfl, Nat.le_of_ble_eq_true rfl⟩ ⟨Nat.le_refl _, Nat.le_refl _⟩ rfl rfl (Nat.le_of_ble_eq_true rfl) dX10_trade_11 ?_
      refine z_ifb_ne (tgt := 21) S he dX10_trade_14 (by decide) (fun he => ?_) (fun he => ?_)
      · refine z_iload_n S dX10_trade_21 rfl 1 rfl ?_
        refine z_iload_n S dX10_trade_22 rfl 2 rfl ?_
        refine z_icmp_ne (tgt := 30) S he dX10_trade_23 (by decide) (fun he => ?_) (fun he => ?_)
        · refine z_iconst (v := 0) S dX10_trade_30 (by decide) ?_
          exact p_X10_trade_J31 S  he
        · refine z_iconst (v := 2) S dX10_trade_26 (by decide) ?_
          refine z_goto (tgt := 31) S dX10_trade_27 (by decide) ?_
          exact p_X10_trade_J31 S  he
      · exact p_X10_trade_J17 S  he
set_option maxRecDepth 100000 in
set_option maxHeartbeats 4000000 in
theorem p_X10_trial_J16 {X : Cx} {p : Program} {l : Launch} {e : Env} {s : State} {m : MethodId} {args : Array Value} {below : List Frame} {meth : Method} {c : Code} (S : SB X 1 p s m args meth c cX10_trial 3 (some .int) RX10) {M : Mm} {N : Mm} {r : Int32} {v1 : Int32} {t0 : Int32}  (he : f_X10_trial_J16 M v1 t0 = some (r, N)) : Z X 1 p l e rm_X10_trial s m args below meth c 0 0 (MQ below (QI X 1 r N s.heap.size) args s 0 0 (AA X 1 s.heap.size)) 3 M 16 [(0, .ref (X.2.2 109)), (1, .int v1)] [.int t0, .ref (X.2.2 109)] := by
  unfold f_X10_trial_J16 at he
  refine z_putIb S fo_RX10_63p rfl ok_109 rfl rfl he dX10_trial_16 (fun M1 he => ?_)
  refine z_aload_n S dX10_trial_19 rfl 0 rfl ?_
  refine z_getI S fo_RX10_63 rfl ok_109 dX10_trial_20 ?_
  refine z_if_le (tgt := 28) S he dX10_trial_23 (by decide) (fun he => ?_) (fun he => ?_)
  · refine z_aload_n S dX10_trial_28 rfl 0 rfl ?_
    obtain ⟨M2, h9, he⟩ := bnd he
    refine z_cVV (As := []) S cv_RX10_171 (K_X10_putsAside  h9) ok_109 (by decide) (q := (RX10, TX10, 28)) rfl rfl ⟨rfl, rfl⟩ ⟨Nat.le_of_ble_eq_true rfl, Nat.le_of_ble_eq_true rfl⟩ ⟨Nat.le_refl _, Nat.le_refl _⟩ rfl rfl (Nat.le_of_ble_eq_true rfl) dX10_trial_29 ?_
    refine z_aload_n S dX10_trial_32 rfl 0 rfl ?_
    refine z_iload_n S dX10_trial_33 rfl 1 rfl ?_
    obtain ⟨⟨r3, M4⟩, h9, he⟩ := bnd he
    dsimp only at he
    refine z_cVI (As := [.int v1]) S cv_RX10_309 (K_X10_goes  h9) ok_109 (by decide) (q := (RX10, TX10, 28)) rfl rfl ⟨rfl, rfl⟩ ⟨Nat.le_of_ble_eq_true rfl, Nat.le_of_ble_eq_true rfl⟩ ⟨Nat.le_refl _, Nat.le_refl _⟩ rfl rfl (Nat.le_of_ble_eq_true rfl) dX10_trial_34 ?_
    refine z_istore_n (lv' := [(0, .ref (X.2.2 109)), (2, .int r3)]) S [1, 0] dX10_trial_37 rfl (by decide) rfl ?_
    refine z_aload_n S dX10_trial_38 rfl 0 rfl ?_
    obtain ⟨M5, h9, he⟩ := bnd he
    refine z_cVV (As := []) S cv_RX10_181 (K_X10_comesBack  h9) ok_109 (by decide) (q := (RX10, TX10, 28)) rfl rfl ⟨rfl, rfl⟩ ⟨Nat.le_of_ble_eq_true rfl, Nat.le_of_ble_eq_true rfl⟩ ⟨Nat.le_refl _, Nat.le_refl _⟩ rfl rfl (Nat.le_of_ble_eq_true rfl) dX10_trial_39 ?_
    refine z_iload_n S dX10_trial_42 rfl 1 rfl ?_
    exact z_iret S (Prod.mk.inj (Option.some.inj he)) dX10_trial_43
  · refine z_iconst (v := 0) S dX10_trial_26 (by decide) ?_
    exact z_iret S (Prod.mk.inj (Option.some.inj he)) dX10_trial_27
set_option maxRecDepth 100000 in
set_option maxHeartbeats 4000000 in
theorem K_X10_trial {X : Cx} {l : Launch} {M : Mm} {a1 : Int32} {r : Int32} {N : Mm}  (he : f_X10_trial M a1 = some (r, N)) : KI X 1 l yX10_trial (wz yX10_trial cX10_trial 3 (some .int)) rm_X10_trial [.ref (X.2.2 109), .int a1] M r N := by
  intro sz
  refine K_of (Qc := (fun sz => QI X 1 r N sz)) (own := RX10) (lv0 := [(0, .ref (X.2.2 109)), (1, .int a1)]) (by decide +kernel) rfl (Nat.le_of_ble_eq_true rfl) rfl (fun p e s m args below meth c S => ?_) sz
  · unfold f_X10_trial at he
    refine z_aload_n S dX10_trial_0 rfl 0 rfl ?_
    refine z_iload_n S dX10_trial_1 rfl 1 rfl ?_
    refine z_iconst (v := 0) S dX10_trial_2 (by decide) ?_
    refine z_bipush (v := 30) S dX10_trial_3 (by decide) ?_
    refine z_cSI (As := [.int a1, .int 0, .int 30]) S cs_RX10_66 (K_X10_isIn  rfl) ⟨rfl, rfl⟩ ⟨Nat.le_of_ble_eq_true rfl, Nat.le_of_ble_eq_true rfl⟩ ⟨Nat.le_refl _, Nat.le_refl _⟩ rfl rfl (Nat.le_of_ble_eq_true rfl) dX10_trial_5 ?_
    refine z_ifb_ne (tgt := 15) S he dX10_trial_8 (by decide) (fun he => ?_) (fun he => ?_)
    · refine z_iconst (v := 0) S dX10_trial_15 (by decide) ?_
      exact p_X10_trial_J16 S  he
    · refine z_iconst (v := 1) S dX10_trial_11 (by decide) ?_
      refine z_goto (tgt := 16) S dX10_trial_12 (by decide) ?_
      exact p_X10_trial_J16 S  he
