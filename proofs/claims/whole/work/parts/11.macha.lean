set_option maxRecDepth 100000 in
set_option maxHeartbeats 4000000 in
theorem K_J0_isLatin1_aae02 {X : Cx} {w : Nat} {l : Launch} {M : Mm} {a0 : Nat} {r : Bool} (h_a0 : isT a0 = true) (he : f_J0_isLatin1_aae02 M a0 = r) : KI X w l yJ0_isLatin1_aae02 (wz yJ0_isLatin1_aae02 cJ0_isLatin1_aae02 1 (some .boolean)) rm_J0_isLatin1_aae02 [.ref (X.2.2 a0)] M (bI r) M := by
  intro sz
  refine K_of (Qc := (fun sz => QI X w (bI r) M sz)) (own := RJ0) (lv0 := [(0, .ref (X.2.2 a0))]) (by decide +kernel) rfl (Nat.le_of_ble_eq_true rfl) rfl (fun p e s m args below meth c S => ?_) sz
  · unfold f_J0_isLatin1_aae02 at he
    refine z_comp S gc_RJ0_38 dJ0_isLatin1_aae02_0 ?_
    refine z_if_eq (tgt := 17) S he dJ0_isLatin1_aae02_3 (by decide) (fun he => ?_) (fun he => ?_)
    · refine z_iconst (v := 0) S dJ0_isLatin1_aae02_17 (by decide) ?_
      exact z_zret0 S (⟨he, rfl⟩) dJ0_isLatin1_aae02_18
    · refine z_aload_n S dJ0_isLatin1_aae02_6 rfl 0 rfl ?_
      refine z_tcod S h_a0 gs_RJ0_15 dJ0_isLatin1_aae02_7 ?_
      refine z_if_ne (tgt := 17) S he dJ0_isLatin1_aae02_10 (by decide) (fun he => ?_) (fun he => ?_)
      · refine z_iconst (v := 0) S dJ0_isLatin1_aae02_17 (by decide) ?_
        exact z_zret0 S (⟨he, rfl⟩) dJ0_isLatin1_aae02_18
      · refine z_iconst (v := 1) S dJ0_isLatin1_aae02_13 (by decide) ?_
        refine z_goto (tgt := 18) S dJ0_isLatin1_aae02_14 (by decide) ?_
        exact z_zret1 S (⟨he, rfl⟩) dJ0_isLatin1_aae02_18
set_option maxRecDepth 100000 in
set_option maxHeartbeats 4000000 in
theorem K_J1_charAt_3b067 {X : Cx} {w : Nat} {l : Launch} {M : Mm} {a0 : Nat} {a1 : Int32} {r : Int32} (h_a0 : isB a0 = true) (he : f_J1_charAt_3b067 M a0 a1 = some r) : KI X w l yJ1_charAt_3b067 (wz yJ1_charAt_3b067 cJ1_charAt_3b067 2 (some .char)) rm_J1_charAt_3b067 [.ref (X.2.2 a0), .int a1] M r M := by
  intro sz
  refine K_of (Qc := (fun sz => QI X w r M sz)) (own := RJ1) (lv0 := [(0, .ref (X.2.2 a0)), (1, .int a1)]) (by decide +kernel) rfl (Nat.le_of_ble_eq_true rfl) rfl (fun p e s m args below meth c S => ?_) sz
  · unfold f_J1_charAt_3b067 at he
    refine z_iload_n S dJ1_charAt_3b067_0 rfl 1 rfl ?_
    refine z_aload_n S dJ1_charAt_3b067_1 rfl 0 rfl ?_
    refine z_blen S h_a0 dJ1_charAt_3b067_2 ?_
    obtain ⟨r1, h9, he⟩ := bnd he
    refine z_cSV (As := [.int a1, .int (Int32.ofNat (bq a0).length)]) S cs_RJ1_9 (K_J0_checkIndex_df160  h9) ⟨rfl, rfl⟩ ⟨Nat.le_of_ble_eq_true rfl, Nat.le_of_ble_eq_true rfl⟩ ⟨Nat.le_refl _, Nat.le_refl _⟩ rfl rfl (Nat.le_of_ble_eq_true rfl) dJ1_charAt_3b067_3 ?_
    refine z_aload_n S dJ1_charAt_3b067_6 rfl 0 rfl ?_
    refine z_iload_n S dJ1_charAt_3b067_7 rfl 1 rfl ?_
    refine z_bald S h_a0 he dJ1_charAt_3b067_8 (fun he => ?_)
    refine z_sipush (v := 255) S dJ1_charAt_3b067_9 (by decide) ?_
    refine z_iand S dJ1_charAt_3b067_12 ?_
    refine z_i2c S dJ1_charAt_3b067_13 ?_
    exact z_nret S rfl (pk_nc _) (⟨Option.some.inj he, rfl⟩) dJ1_charAt_3b067_14
set_option maxRecDepth 100000 in
set_option maxHeartbeats 4000000 in
theorem K_J0_charAt_5068e {X : Cx} {w : Nat} {l : Launch} {M : Mm} {a0 : Nat} {a1 : Int32} {r : Int32} (h_a0 : isT a0 = true) (he : f_J0_charAt_5068e M a0 a1 = some r) : KI X w l yJ0_charAt_5068e (wz yJ0_charAt_5068e cJ0_charAt_5068e 2 (some .char)) rm_J0_charAt_5068e [.ref (X.2.2 a0), .int a1] M r M := by
  intro sz
  refine K_of (Qc := (fun sz => QI X w r M sz)) (own := RJ0) (lv0 := [(0, .ref (X.2.2 a0)), (1, .int a1)]) (by decide +kernel) rfl (Nat.le_of_ble_eq_true rfl) rfl (fun p e s m args below meth c S => ?_) sz
  · unfold f_J0_charAt_5068e at he
    refine z_aload_n S dJ0_charAt_5068e_0 rfl 0 rfl ?_
    refine z_cTI (As := []) S cv_RJ0_492 (K_J0_isLatin1_aae02 h_a0 rfl) h_a0 ⟨rfl, rfl⟩ ⟨Nat.le_of_ble_eq_true rfl, Nat.le_of_ble_eq_true rfl⟩ ⟨Nat.le_refl _, Nat.le_refl _⟩ rfl rfl (Nat.le_of_ble_eq_true rfl) dJ0_charAt_5068e_1 ?_
    refine z_ifb_eq (tgt := 16) S he dJ0_charAt_5068e_4 (by decide) (fun he => ?_) (fun he => ?_)
    · cases he
    · refine z_aload_n S dJ0_charAt_5068e_7 rfl 0 rfl ?_
      refine z_tval S h_a0 gs_RJ0_9 dJ0_charAt_5068e_8 ?_
      refine z_iload_n S dJ0_charAt_5068e_11 rfl 1 rfl ?_
      obtain ⟨r1, h9, he⟩ := bnd he
      refine z_cSI (As := [.ref (X.2.2 (a0 + 200)), .int a1]) S cs_RJ0_495 (K_J1_charAt_3b067 (isT_B h_a0) h9) ⟨rfl, rfl⟩ ⟨Nat.le_of_ble_eq_true rfl, Nat.le_of_ble_eq_true rfl⟩ ⟨Nat.le_refl _, Nat.le_refl _⟩ rfl rfl (Nat.le_of_ble_eq_true rfl) dJ0_charAt_5068e_12 ?_
      obtain ⟨hk9, he⟩ := grd he
      exact z_nret S rfl (nar_c hk9) (⟨Option.some.inj he, rfl⟩) dJ0_charAt_5068e_15
set_option maxRecDepth 100000 in
set_option maxHeartbeats 4000000 in
theorem K_J0_coder_7d493 {X : Cx} {w : Nat} {l : Launch} {M : Mm} {a0 : Nat} {r : Int32} (h_a0 : isT a0 = true) (he : f_J0_coder_7d493 M a0 = r) : KI X w l yJ0_coder_7d493 (wz yJ0_coder_7d493 cJ0_coder_7d493 1 (some .byte)) rm_J0_coder_7d493 [.ref (X.2.2 a0)] M r M := by
  intro sz
  refine K_of (Qc := (fun sz => QI X w r M sz)) (own := RJ0) (lv0 := [(0, .ref (X.2.2 a0))]) (by decide +kernel) rfl (Nat.le_of_ble_eq_true rfl) rfl (fun p e s m args below meth c S => ?_) sz
  · unfold f_J0_coder_7d493 at he
    refine z_comp S gc_RJ0_38 dJ0_coder_7d493_0 ?_
    refine z_if_eq (tgt := 13) S he dJ0_coder_7d493_3 (by decide) (fun he => ?_) (fun he => ?_)
    · refine z_iconst (v := 1) S dJ0_coder_7d493_13 (by decide) ?_
      exact z_nret S rfl rfl (⟨he, rfl⟩) dJ0_coder_7d493_14
    · refine z_aload_n S dJ0_coder_7d493_6 rfl 0 rfl ?_
      refine z_tcod S h_a0 gs_RJ0_15 dJ0_coder_7d493_7 ?_
      refine z_goto (tgt := 14) S dJ0_coder_7d493_10 (by decide) ?_
      exact z_nret S rfl rfl (⟨he, rfl⟩) dJ0_coder_7d493_14
set_option maxRecDepth 100000 in
set_option maxHeartbeats 4000000 in
theorem K_J0_length_8abf5 {X : Cx} {w : Nat} {l : Launch} {M : Mm} {a0 : Nat} {r : Int32} (h_a0 : isT a0 = true) (he : f_J0_length_8abf5 M a0 = r) : KI X w l yJ0_length_8abf5 (wz yJ0_length_8abf5 cJ0_length_8abf5 1 (some .int)) rm_J0_length_8abf5 [.ref (X.2.2 a0)] M r M := by
  intro sz
  refine K_of (Qc := (fun sz => QI X w r M sz)) (own := RJ0) (lv0 := [(0, .ref (X.2.2 a0))]) (by decide +kernel) rfl (Nat.le_of_ble_eq_true rfl) rfl (fun p e s m args below meth c S => ?_) sz
  · unfold f_J0_length_8abf5 at he
    refine z_aload_n S dJ0_length_8abf5_0 rfl 0 rfl ?_
    refine z_tval S h_a0 gs_RJ0_9 dJ0_length_8abf5_1 ?_
    refine z_blen S (isT_B h_a0) dJ0_length_8abf5_4 ?_
    refine z_aload_n S dJ0_length_8abf5_5 rfl 0 rfl ?_
    refine z_cTI (As := []) S cv_RJ0_335 (K_J0_coder_7d493 h_a0 rfl) h_a0 ⟨rfl, rfl⟩ ⟨Nat.le_of_ble_eq_true rfl, Nat.le_of_ble_eq_true rfl⟩ ⟨Nat.le_refl _, Nat.le_refl _⟩ rfl rfl (Nat.le_of_ble_eq_true rfl) dJ0_length_8abf5_6 ?_
    refine z_ishr S dJ0_length_8abf5_9 ?_
    exact z_iret S (⟨he, rfl⟩) dJ0_length_8abf5_10
set_option maxRecDepth 100000 in
set_option maxHeartbeats 4000000 in
theorem K_J13_bitCount_95d88 {X : Cx} {l : Launch} {M : Mm} {a0 : Int64} {r : Int32}  (he : f_J13_bitCount_95d88 M a0 = some r) : KI X 0 l yJ13_bitCount_95d88 (wz yJ13_bitCount_95d88 cJ13_bitCount_95d88 2 (some .int)) rm_J13_bitCount_95d88 [.long a0] M r M := by
  intro sz
  refine K_of (Qc := (fun sz => QI X 0 r M sz)) (own := RJ13) (lv0 := [(0, .long a0)]) (by decide +kernel) rfl (Nat.le_of_ble_eq_true rfl) rfl (fun p e s m args below meth c S => ?_) sz
  · unfold f_J13_bitCount_95d88 at he
    refine z_lload_n S dJ13_bitCount_95d88_0 rfl 0 rfl ?_
    refine z_lload_n S dJ13_bitCount_95d88_1 rfl 0 rfl ?_
    refine z_iconst (v := 1) S dJ13_bitCount_95d88_2 (by decide) ?_
    refine z_lushr S dJ13_bitCount_95d88_3 ?_
    refine z_ldc2 (v := 6148914691236517205) S kc_RJ13_314 dJ13_bitCount_95d88_4 ?_
    refine z_land S dJ13_bitCount_95d88_7 ?_
    refine z_lsub S dJ13_bitCount_95d88_8 ?_
    obtain ⟨x1, ex1, he⟩ := bnd he
    rw [Option.some.inj ex1]
    refine z_lstore_n (lv' := [(0, .long x1)]) S [0] dJ13_bitCount_95d88_9 rfl (by decide) rfl ?_
    refine z_lload_n S dJ13_bitCount_95d88_10 rfl 0 rfl ?_
    refine z_ldc2 (v := 3689348814741910323) S kc_RJ13_316 dJ13_bitCount_95d88_11 ?_
    refine z_land S dJ13_bitCount_95d88_14 ?_
    refine z_lload_n S dJ13_bitCount_95d88_15 rfl 0 rfl ?_
    refine z_iconst (v := 2) S dJ13_bitCount_95d88_16 (by decide) ?_
    refine z_lushr S dJ13_bitCount_95d88_17 ?_
    refine z_ldc2 (v := 3689348814741910323) S kc_RJ13_316 dJ13_bitCount_95d88_18 ?_
    refine z_land S dJ13_bitCount_95d88_21 ?_
    refine z_ladd S dJ13_bitCount_95d88_22 ?_
    obtain ⟨x2, ex2, he⟩ := bnd he
    rw [Option.some.inj ex2]
    refine z_lstore_n (lv' := [(0, .long x2)]) S [0] dJ13_bitCount_95d88_23 rfl (by decide) rfl ?_
    refine z_lload_n S dJ13_bitCount_95d88_24 rfl 0 rfl ?_
    refine z_lload_n S dJ13_bitCount_95d88_25 rfl 0 rfl ?_
    refine z_iconst (v := 4) S dJ13_bitCount_95d88_26 (by decide) ?_
    refine z_lushr S dJ13_bitCount_95d88_27 ?_
    refine z_ladd S dJ13_bitCount_95d88_28 ?_
    refine z_ldc2 (v := 1085102592571150095) S kc_RJ13_318 dJ13_bitCount_95d88_29 ?_
    refine z_land S dJ13_bitCount_95d88_32 ?_
    obtain ⟨x3, ex3, he⟩ := bnd he
    rw [Option.some.inj ex3]
    refine z_lstore_n (lv' := [(0, .long x3)]) S [0] dJ13_bitCount_95d88_33 rfl (by decide) rfl ?_
    refine z_lload_n S dJ13_bitCount_95d88_34 rfl 0 rfl ?_
    refine z_lload_n S dJ13_bitCount_95d88_35 rfl 0 rfl ?_
    refine z_bipush (v := 8) S dJ13_bitCount_95d88_36 (by decide) ?_
    refine z_lushr S dJ13_bitCount_95d88_38 ?_
    refine z_ladd S dJ13_bitCount_95d88_39 ?_
    refine z_lstore_n (lv' := [(0, .long (x3 + (lush x3 8)))]) S [0] dJ13_bitCount_95d88_40 rfl (by decide) rfl ?_
    refine z_lload_n S dJ13_bitCount_95d88_41 rfl 0 rfl ?_
    refine z_lload_n S dJ13_bitCount_95d88_42 rfl 0 rfl ?_
    refine z_bipush (v := 16) S dJ13_bitCount_95d88_43 (by decide) ?_
    refine z_lushr S dJ13_bitCount_95d88_45 ?_
    refine z_ladd S dJ13_bitCount_95d88_46 ?_
    obtain ⟨x4, ex4, he⟩ := bnd he
    rw [Option.some.inj ex4]
    refine z_lstore_n (lv' := [(0, .long x4)]) S [0] dJ13_bitCount_95d88_47 rfl (by decide) rfl ?_
    refine z_lload_n S dJ13_bitCount_95d88_48 rfl 0 rfl ?_
    refine z_lload_n S dJ13_bitCount_95d88_49 rfl 0 rfl ?_
    refine z_bipush (v := 32) S dJ13_bitCount_95d88_50 (by decide) ?_
    refine z_lushr S dJ13_bitCount_95d88_52 ?_
    refine z_ladd S dJ13_bitCount_95d88_53 ?_
    refine z_lstore_n (lv' := [(0, .long (x4 + (lush x4 32)))]) S [0] dJ13_bitCount_95d88_54 rfl (by decide) rfl ?_
    refine z_lload_n S dJ13_bitCount_95d88_55 rfl 0 rfl ?_
    refine z_l2i S dJ13_bitCount_95d88_56 ?_
    refine z_bipush (v := 127) S dJ13_bitCount_95d88_57 (by decide) ?_
    refine z_iand S dJ13_bitCount_95d88_59 ?_
    exact z_iret S (⟨Option.some.inj he, rfl⟩) dJ13_bitCount_95d88_60
set_option maxRecDepth 100000 in
set_option maxHeartbeats 4000000 in
theorem K_J6_bitCount_0f7a4 {X : Cx} {l : Launch} {M : Mm} {a0 : Int32} {r : Int32}  (he : f_J6_bitCount_0f7a4 M a0 = some r) : KI X 0 l yJ6_bitCount_0f7a4 (wz yJ6_bitCount_0f7a4 cJ6_bitCount_0f7a4 1 (some .int)) rm_J6_bitCount_0f7a4 [.int a0] M r M := by
  intro sz
  refine K_of (Qc := (fun sz => QI X 0 r M sz)) (own := RJ6) (lv0 := [(0, .int a0)]) (by decide +kernel) rfl (Nat.le_of_ble_eq_true rfl) rfl (fun p e s m args below meth c S => ?_) sz
  · unfold f_J6_bitCount_0f7a4 at he
    refine z_iload_n S dJ6_bitCount_0f7a4_0 rfl 0 rfl ?_
    refine z_iload_n S dJ6_bitCount_0f7a4_1 rfl 0 rfl ?_
    refine z_iconst (v := 1) S dJ6_bitCount_0f7a4_2 (by decide) ?_
    refine z_iushr S dJ6_bitCount_0f7a4_3 ?_
    refine z_ldcw (v := 1431655765) S kc_RJ6_265 dJ6_bitCount_0f7a4_4 ?_
    refine z_iand S dJ6_bitCount_0f7a4_7 ?_
    refine z_isub S dJ6_bitCount_0f7a4_8 ?_
    obtain ⟨x1, ex1, he⟩ := bnd he
    rw [Option.some.inj ex1]
    refine z_istore_n (lv' := [(0, .int x1)]) S [0] dJ6_bitCount_0f7a4_9 rfl (by decide) rfl ?_
    refine z_iload_n S dJ6_bitCount_0f7a4_10 rfl 0 rfl ?_
    refine z_ldcw (v := 858993459) S kc_RJ6_266 dJ6_bitCount_0f7a4_11 ?_
    refine z_iand S dJ6_bitCount_0f7a4_14 ?_
    refine z_iload_n S dJ6_bitCount_0f7a4_15 rfl 0 rfl ?_
    refine z_iconst (v := 2) S dJ6_bitCount_0f7a4_16 (by decide) ?_
    refine z_iushr S dJ6_bitCount_0f7a4_17 ?_
    refine z_ldcw (v := 858993459) S kc_RJ6_266 dJ6_bitCount_0f7a4_18 ?_
    refine z_iand S dJ6_bitCount_0f7a4_21 ?_
    refine z_iadd S dJ6_bitCount_0f7a4_22 ?_
    obtain ⟨x2, ex2, he⟩ := bnd he
    rw [Option.some.inj ex2]
    refine z_istore_n (lv' := [(0, .int x2)]) S [0] dJ6_bitCount_0f7a4_23 rfl (by decide) rfl ?_
    refine z_iload_n S dJ6_bitCount_0f7a4_24 rfl 0 rfl ?_
    refine z_iload_n S dJ6_bitCount_0f7a4_25 rfl 0 rfl ?_
    refine z_iconst (v := 4) S dJ6_bitCount_0f7a4_26 (by decide) ?_
    refine z_iushr S dJ6_bitCount_0f7a4_27 ?_
    refine z_iadd S dJ6_bitCount_0f7a4_28 ?_
    refine z_ldcw (v := 252645135) S kc_RJ6_267 dJ6_bitCount_0f7a4_29 ?_
    refine z_iand S dJ6_bitCount_0f7a4_32 ?_
    obtain ⟨x3, ex3, he⟩ := bnd he
    rw [Option.some.inj ex3]
    refine z_istore_n (lv' := [(0, .int x3)]) S [0] dJ6_bitCount_0f7a4_33 rfl (by decide) rfl ?_
    refine z_iload_n S dJ6_bitCount_0f7a4_34 rfl 0 rfl ?_
    refine z_iload_n S dJ6_bitCount_0f7a4_35 rfl 0 rfl ?_
    refine z_bipush (v := 8) S dJ6_bitCount_0f7a4_36 (by decide) ?_
    refine z_iushr S dJ6_bitCount_0f7a4_38 ?_
    refine z_iadd S dJ6_bitCount_0f7a4_39 ?_
    refine z_istore_n (lv' := [(0, .int (x3 + (iush x3 8)))]) S [0] dJ6_bitCount_0f7a4_40 rfl (by decide) rfl ?_
    refine z_iload_n S dJ6_bitCount_0f7a4_41 rfl 0 rfl ?_
    refine z_iload_n S dJ6_bitCount_0f7a4_42 rfl 0 rfl ?_
    refine z_bipush (v := 16) S dJ6_bitCount_0f7a4_43 (by decide) ?_
    refine z_iushr S dJ6_bitCount_0f7a4_45 ?_
    refine z_iadd S dJ6_bitCount_0f7a4_46 ?_
    obtain ⟨x4, ex4, he⟩ := bnd he
    rw [Option.some.inj ex4]
    refine z_istore_n (lv' := [(0, .int x4)]) S [0] dJ6_bitCount_0f7a4_47 rfl (by decide) rfl ?_
    refine z_iload_n S dJ6_bitCount_0f7a4_48 rfl 0 rfl ?_
    refine z_bipush (v := 63) S dJ6_bitCount_0f7a4_49 (by decide) ?_
    refine z_iand S dJ6_bitCount_0f7a4_51 ?_
    exact z_iret S (⟨Option.some.inj he, rfl⟩) dJ6_bitCount_0f7a4_52
set_option maxRecDepth 100000 in
set_option maxHeartbeats 4000000 in
theorem p_J6_numberOfTrailingZeros_0f7a4_J74 {X : Cx} {p : Program} {l : Launch} {e : Env} {s : State} {m : MethodId} {args : Array Value} {below : List Frame} {meth : Method} {c : Code} (S : SB X 0 p s m args meth c cJ6_numberOfTrailingZeros_0f7a4 2 (some .int) RJ6) {M : Mm} {r : Int32} {v0 : Int32} {v1 : Int32}  (he : f_J6_numberOfTrailingZeros_0f7a4_J74 M v0 v1 = some r) : Z X 0 p l e rm_J6_numberOfTrailingZeros_0f7a4 s m args below meth c 0 0 (MQ below (QI X 0 r M s.heap.size) args s 0 0 (AA X 0 s.heap.size)) 2 M 74 [(0, .int v0), (1, .int v1)] [] := by
  unfold f_J6_numberOfTrailingZeros_0f7a4_J74 at he
  refine z_iload_n S dJ6_numberOfTrailingZeros_0f7a4_74 rfl 1 rfl ?_
  refine z_iload_n S dJ6_numberOfTrailingZeros_0f7a4_75 rfl 0 rfl ?_
  refine z_iconst (v := 1) S dJ6_numberOfTrailingZeros_0f7a4_76 (by decide) ?_
  refine z_iushr S dJ6_numberOfTrailingZeros_0f7a4_77 ?_
  refine z_iadd S dJ6_numberOfTrailingZeros_0f7a4_78 ?_
  exact z_iret S (⟨Option.some.inj he, rfl⟩) dJ6_numberOfTrailingZeros_0f7a4_79
set_option maxRecDepth 100000 in
set_option maxHeartbeats 4000000 in
theorem p_J6_numberOfTrailingZeros_0f7a4_J62 {X : Cx} {p : Program} {l : Launch} {e : Env} {s : State} {m : MethodId} {args : Array Value} {below : List Frame} {meth : Method} {c : Code} (S : SB X 0 p s m args meth c cJ6_numberOfTrailingZeros_0f7a4 2 (some .int) RJ6) {M : Mm} {r : Int32} {v0 : Int32} {v1 : Int32}  (he : f_J6_numberOfTrailingZeros_0f7a4_J62 M v0 v1 = some r) : Z X 0 p l e rm_J6_numberOfTrailingZeros_0f7a4 s m args below meth c 0 0 (MQ below (QI X 0 r M s.heap.size) args s 0 0 (AA X 0 s.heap.size)) 2 M 62 [(0, .int v0), (1, .int v1)] [] := by
  unfold f_J6_numberOfTrailingZeros_0f7a4_J62 at he
  refine z_iload_n S dJ6_numberOfTrailingZeros_0f7a4_62 rfl 0 rfl ?_
  refine z_iconst (v := 4) S dJ6_numberOfTrailingZeros_0f7a4_63 (by decide) ?_
  refine z_icmp_le (tgt := 74) S he dJ6_numberOfTrailingZeros_0f7a4_64 (by decide) (fun he => ?_) (fun he => ?_)
  · exact p_J6_numberOfTrailingZeros_0f7a4_J74 S  he
  · refine z_iinc (v := (v1 + 2)) (lv' := [(0, .int v0), (1, .int (v1 + 2))]) S [1, 0] 1 dJ6_numberOfTrailingZeros_0f7a4_67 rfl (by rfl) (by decide) rfl ?_
    refine z_iload_n S dJ6_numberOfTrailingZeros_0f7a4_70 rfl 0 rfl ?_
    refine z_iconst (v := 2) S dJ6_numberOfTrailingZeros_0f7a4_71 (by decide) ?_
    refine z_iushr S dJ6_numberOfTrailingZeros_0f7a4_72 ?_
    refine z_istore_n (lv' := [(0, .int (iush v0 2)), (1, .int (v1 + 2))]) S [0, 1] dJ6_numberOfTrailingZeros_0f7a4_73 rfl (by decide) rfl ?_
    exact p_J6_numberOfTrailingZeros_0f7a4_J74 S  he
set_option maxRecDepth 100000 in
set_option maxHeartbeats 4000000 in
theorem p_J6_numberOfTrailingZeros_0f7a4_J49 {X : Cx} {p : Program} {l : Launch} {e : Env} {s : State} {m : MethodId} {args : Array Value} {below : List Frame} {meth : Method} {c : Code} (S : SB X 0 p s m args meth c cJ6_numberOfTrailingZeros_0f7a4 2 (some .int) RJ6) {M : Mm} {r : Int32} {v0 : Int32} {v1 : Int32}  (he : f_J6_numberOfTrailingZeros_0f7a4_J49 M v0 v1 = some r) : Z X 0 p l e rm_J6_numberOfTrailingZeros_0f7a4 s m args below meth c 0 0 (MQ below (QI X 0 r M s.heap.size) args s 0 0 (AA X 0 s.heap.size)) 2 M 49 [(0, .int v0), (1, .int v1)] [] := by
  unfold f_J6_numberOfTrailingZeros_0f7a4_J49 at he
  refine z_iload_n S dJ6_numberOfTrailingZeros_0f7a4_49 rfl 0 rfl ?_
  refine z_bipush (v := 16) S dJ6_numberOfTrailingZeros_0f7a4_50 (by decide) ?_
  refine z_icmp_le (tgt := 62) S he dJ6_numberOfTrailingZeros_0f7a4_52 (by decide) (fun he => ?_) (fun he => ?_)
  · exact p_J6_numberOfTrailingZeros_0f7a4_J62 S  he
  · refine z_iinc (v := (v1 + 4)) (lv' := [(0, .int v0), (1, .int (v1 + 4))]) S [1, 0] 1 dJ6_numberOfTrailingZeros_0f7a4_55 rfl (by rfl) (by decide) rfl ?_
    refine z_iload_n S dJ6_numberOfTrailingZeros_0f7a4_58 rfl 0 rfl ?_
    refine z_iconst (v := 4) S dJ6_numberOfTrailingZeros_0f7a4_59 (by decide) ?_
    refine z_iushr S dJ6_numberOfTrailingZeros_0f7a4_60 ?_
    refine z_istore_n (lv' := [(0, .int (iush v0 4)), (1, .int (v1 + 4))]) S [0, 1] dJ6_numberOfTrailingZeros_0f7a4_61 rfl (by decide) rfl ?_
    exact p_J6_numberOfTrailingZeros_0f7a4_J62 S  he
set_option maxRecDepth 100000 in
set_option maxHeartbeats 4000000 in
theorem p_J6_numberOfTrailingZeros_0f7a4_J34 {X : Cx} {p : Program} {l : Launch} {e : Env} {s : State} {m : MethodId} {args : Array Value} {below : List Frame} {meth : Method} {c : Code} (S : SB X 0 p s m args meth c cJ6_numberOfTrailingZeros_0f7a4 2 (some .int) RJ6) {M : Mm} {r : Int32} {v0 : Int32} {v1 : Int32}  (he : f_J6_numberOfTrailingZeros_0f7a4_J34 M v0 v1 = some r) : Z X 0 p l e rm_J6_numberOfTrailingZeros_0f7a4 s m args below meth c 0 0 (MQ below (QI X 0 r M s.heap.size) args s 0 0 (AA X 0 s.heap.size)) 2 M 34 [(0, .int v0), (1, .int v1)] [] := by
  unfold f_J6_numberOfTrailingZeros_0f7a4_J34 at he
  refine z_iload_n S dJ6_numberOfTrailingZeros_0f7a4_34 rfl 0 rfl ?_
  refine z_sipush (v := 256) S dJ6_numberOfTrailingZeros_0f7a4_35 (by decide) ?_
  refine z_icmp_le (tgt := 49) S he dJ6_numberOfTrailingZeros_0f7a4_38 (by decide) (fun he => ?_) (fun he => ?_)
  · exact p_J6_numberOfTrailingZeros_0f7a4_J49 S  he
  · refine z_iinc (v := (v1 + 8)) (lv' := [(0, .int v0), (1, .int (v1 + 8))]) S [1, 0] 1 dJ6_numberOfTrailingZeros_0f7a4_41 rfl (by rfl) (by decide) rfl ?_
    refine z_iload_n S dJ6_numberOfTrailingZeros_0f7a4_44 rfl 0 rfl ?_
    refine z_bipush (v := 8) S dJ6_numberOfTrailingZeros_0f7a4_45 (by decide) ?_
    refine z_iushr S dJ6_numberOfTrailingZeros_0f7a4_47 ?_
    refine z_istore_n (lv' := [(0, .int (iush v0 8)), (1, .int (v1 + 8))]) S [0, 1] dJ6_numberOfTrailingZeros_0f7a4_48 rfl (by decide) rfl ?_
    exact p_J6_numberOfTrailingZeros_0f7a4_J49 S  he
set_option maxRecDepth 100000 in
set_option maxHeartbeats 4000000 in
theorem K_J6_numberOfTrailingZeros_0f7a4 {X : Cx} {l : Launch} {M : Mm} {a0 : Int32} {r : Int32}  (he : f_J6_numberOfTrailingZeros_0f7a4 M a0 = some r) : KI X 0 l yJ6_numberOfTrailingZeros_0f7a4 (wz yJ6_numberOfTrailingZeros_0f7a4 cJ6_numberOfTrailingZeros_0f7a4 2 (some .int)) rm_J6_numberOfTrailingZeros_0f7a4 [.int a0] M r M := by
  intro sz
  refine K_of (Qc := (fun sz => QI X 0 r M sz)) (own := RJ6) (lv0 := [(0, .int a0)]) (by decide +kernel) rfl (Nat.le_of_ble_eq_true rfl) rfl (fun p e s m args below meth c S => ?_) sz
  · unfold f_J6_numberOfTrailingZeros_0f7a4 at he
    refine z_iload_n S dJ6_numberOfTrailingZeros_0f7a4_0 rfl 0 rfl ?_
    refine z_iconst (v := (-1)) S dJ6_numberOfTrailingZeros_0f7a4_1 (by decide) ?_
    refine z_ixor S dJ6_numberOfTrailingZeros_0f7a4_2 ?_
    refine z_iload_n S dJ6_numberOfTrailingZeros_0f7a4_3 rfl 0 rfl ?_
    refine z_iconst (v := 1) S dJ6_numberOfTrailingZeros_0f7a4_4 (by decide) ?_
    refine z_isub S dJ6_numberOfTrailingZeros_0f7a4_5 ?_
    refine z_iand S dJ6_numberOfTrailingZeros_0f7a4_6 ?_
    obtain ⟨x1, ex1, he⟩ := bnd he
    rw [Option.some.inj ex1]
    refine z_istore_n (lv' := [(0, .int x1)]) S [0] dJ6_numberOfTrailingZeros_0f7a4_7 rfl (by decide) rfl ?_
    refine z_iload_n S dJ6_numberOfTrailingZeros_0f7a4_8 rfl 0 rfl ?_
    refine z_if_gt (tgt := 17) S he dJ6_numberOfTrailingZeros_0f7a4_9 (by decide) (fun he => ?_) (fun he => ?_)
    · refine z_iconst (v := 1) S dJ6_numberOfTrailingZeros_0f7a4_17 (by decide) ?_
      refine z_istore_n (lv' := [(0, .int x1), (1, .int 1)]) S [1, 0] dJ6_numberOfTrailingZeros_0f7a4_18 rfl (by decide) rfl ?_
      refine z_iload_n S dJ6_numberOfTrailingZeros_0f7a4_19 rfl 0 rfl ?_
      refine z_ldcw (v := 65536) S kc_RJ6_264 dJ6_numberOfTrailingZeros_0f7a4_20 ?_
      refine z_icmp_le (tgt := 34) S he dJ6_numberOfTrailingZeros_0f7a4_23 (by decide) (fun he => ?_) (fun he => ?_)
      · exact p_J6_numberOfTrailingZeros_0f7a4_J34 S  he
      · refine z_iinc (v := (1 + 16)) (lv' := [(0, .int x1), (1, .int (1 + 16))]) S [1, 0] 1 dJ6_numberOfTrailingZeros_0f7a4_26 rfl (by rfl) (by decide) rfl ?_
        refine z_iload_n S dJ6_numberOfTrailingZeros_0f7a4_29 rfl 0 rfl ?_
        refine z_bipush (v := 16) S dJ6_numberOfTrailingZeros_0f7a4_30 (by decide) ?_
        refine z_iushr S dJ6_numberOfTrailingZeros_0f7a4_32 ?_
        refine z_istore_n (lv' := [(0, .int (iush x1 16)), (1, .int (1 + 16))]) S [0, 1] dJ6_numberOfTrailingZeros_0f7a4_33 rfl (by decide) rfl ?_
        exact p_J6_numberOfTrailingZeros_0f7a4_J34 S  he
    · refine z_iload_n S dJ6_numberOfTrailingZeros_0f7a4_12 rfl 0 rfl ?_
      refine z_bipush (v := 32) S dJ6_numberOfTrailingZeros_0f7a4_13 (by decide) ?_
      refine z_iand S dJ6_numberOfTrailingZeros_0f7a4_15 ?_
      exact z_iret S (⟨Option.some.inj he, rfl⟩) dJ6_numberOfTrailingZeros_0f7a4_16
set_option maxRecDepth 100000 in
set_option maxHeartbeats 4000000 in
theorem p_J7_fill_53178_L5 {X : Cx} {p : Program} {l : Launch} {e : Env} {s : State} {m : MethodId} {args : Array Value} {below : List Frame} {meth : Method} {c : Code} (S : SB X 0 p s m args meth c cJ7_fill_53178 4 none RJ7) {M : Mm} {N : Mm} {v0 : Nat} {v1 : Int32} {v2 : Int32} {v3 : Int32} {x : (Mm × Int32) ⊕ Mm} (h_v0 : OK 0 v0 30) (he : f_J7_fill_53178_L5 M v0 v1 v2 v3 = some x) (hc : ∀ b, x = .inl b → Z X 0 p l e rm_J7_fill_53178 s m args below meth c 0 0 (MQ below (QV X 0 N s.heap.size) args s 0 0 (AA X 0 s.heap.size)) 4 b.1 5 [(0, .ref (X.2.2 v0)), (1, .int v1), (2, .int b.2), (3, .int v3)] []) (hx : ∀ b, x = .inr b → Z X 0 p l e rm_J7_fill_53178 s m args below meth c 0 0 (MQ below (QV X 0 N s.heap.size) args s 0 0 (AA X 0 s.heap.size)) 4 b 20 [] []) : Z X 0 p l e rm_J7_fill_53178 s m args below meth c 0 0 (MQ below (QV X 0 N s.heap.size) args s 0 0 (AA X 0 s.heap.size)) 4 M 5 [(0, .ref (X.2.2 v0)), (1, .int v1), (2, .int v2), (3, .int v3)] [] := by
  unfold f_J7_fill_53178_L5 at he
  refine z_iload_n S dJ7_fill_53178_5 rfl 2 rfl ?_
  refine z_iload_n S dJ7_fill_53178_6 rfl 3 rfl ?_
  refine z_icmp_ge (tgt := 20) S he dJ7_fill_53178_7 (by decide) (fun he => ?_) (fun he => ?_)
  · refine z_lv (ks := []) rfl ?_
    exact hx _ (Option.some.inj he).symm
  · refine z_aload_n S dJ7_fill_53178_10 rfl 0 rfl ?_
    refine z_iload_n S dJ7_fill_53178_11 rfl 2 rfl ?_
    refine z_iload_n S dJ7_fill_53178_12 rfl 1 rfl ?_
    refine z_iastb S h_v0 rfl he dJ7_fill_53178_13 (fun M1 he => ?_)
    refine z_iinc (v := (v2 + 1)) (lv' := [(0, .ref (X.2.2 v0)), (1, .int v1), (2, .int (v2 + 1)), (3, .int v3)]) S [1, 2, 0, 3] 2 dJ7_fill_53178_14 rfl (by rfl) (by decide) rfl ?_
    refine z_goto (tgt := 5) S dJ7_fill_53178_17 (by decide) ?_
    refine z_lv (ks := [0, 1, 2, 3]) rfl ?_
    exact hc _ (Option.some.inj he).symm
set_option maxRecDepth 100000 in
set_option maxHeartbeats 4000000 in
theorem K_J7_fill_53178 {X : Cx} {l : Launch} {M : Mm} {a0 : Nat} {a1 : Int32} {N : Mm} (h_a0 : OK 0 a0 30) (he : f_J7_fill_53178 M a0 a1 = some N) : KV X 0 l yJ7_fill_53178 (wz yJ7_fill_53178 cJ7_fill_53178 4 none) rm_J7_fill_53178 [.ref (X.2.2 a0), .int a1] M N := by
  intro sz
  refine K_of (Qc := (fun sz => QV X 0 N sz)) (own := RJ7) (lv0 := [(0, .ref (X.2.2 a0)), (1, .int a1)]) (by decide +kernel) rfl (Nat.le_of_ble_eq_true rfl) rfl (fun p e s m args below meth c S => ?_) sz
  · unfold f_J7_fill_53178 at he
    refine z_iconst (v := 0) S dJ7_fill_53178_0 (by decide) ?_
    refine z_istore_n (lv' := [(0, .ref (X.2.2 a0)), (1, .int a1), (2, .int 0)]) S [1, 2, 0] dJ7_fill_53178_1 rfl (by decide) rfl ?_
    refine z_aload_n S dJ7_fill_53178_2 rfl 0 rfl ?_
    refine z_alen (v := Int32.ofNat (ln a0)) S h_a0 (cel_i h_a0.2.2) rfl rfl rfl dJ7_fill_53178_3 ?_
    refine z_istore_n (lv' := [(0, .ref (X.2.2 a0)), (1, .int a1), (2, .int 0), (3, .int (Int32.ofNat (ln a0)))]) S [1, 2, 3, 0] dJ7_fill_53178_4 rfl (by decide) rfl ?_
    obtain ⟨e_2, hl, he⟩ := bnd he
    have hX : Z X 0 p l e rm_J7_fill_53178 s m args below meth c 0 0 (MQ below (QV X 0 N s.heap.size) args s 0 0 (AA X 0 s.heap.size)) 4 e_2 20 [] [] := by
      exact z_vret S (Option.some.inj he) dJ7_fill_53178_20
    have hZ9 := loopZ (f := (fun a_2 => f_J7_fill_53178_L5 a_2.1 a0 a1 a_2.2 (Int32.ofNat (ln a0)))) (Zh := (fun a_2 => Z X 0 p l e rm_J7_fill_53178 s m args below meth c 0 0 (MQ below (QV X 0 N s.heap.size) args s 0 0 (AA X 0 s.heap.size)) 4 a_2.1 5 [(0, .ref (X.2.2 a0)), (1, .int a1), (2, .int a_2.2), (3, .int (Int32.ofNat (ln a0)))] [])) (fun a_2 x hb hc hr => p_J7_fill_53178_L5 S h_a0 hb hc (fun b hxe => by rw [hr b hxe]; exact hX)) FU (M, 0) hl
    exact hZ9
set_option maxRecDepth 100000 in
set_option maxHeartbeats 4000000 in
theorem p_J7_fill_d0a16_L6 {X : Cx} {p : Program} {l : Launch} {e : Env} {s : State} {m : MethodId} {args : Array Value} {below : List Frame} {meth : Method} {c : Code} (S : SB X 0 p s m args meth c cJ7_fill_d0a16 5 none RJ7) {M : Mm} {N : Mm} {v0 : Nat} {v1 : Int64} {v3 : Int32} {v4 : Int32} {x : (Mm × Int32) ⊕ Mm} (h_v0 : OK 0 v0 31) (he : f_J7_fill_d0a16_L6 M v0 v1 v3 v4 = some x) (hc : ∀ b, x = .inl b → Z X 0 p l e rm_J7_fill_d0a16 s m args below meth c 0 0 (MQ below (QV X 0 N s.heap.size) args s 0 0 (AA X 0 s.heap.size)) 5 b.1 6 [(0, .ref (X.2.2 v0)), (1, .long v1), (3, .int b.2), (4, .int v4)] []) (hx : ∀ b, x = .inr b → Z X 0 p l e rm_J7_fill_d0a16 s m args below meth c 0 0 (MQ below (QV X 0 N s.heap.size) args s 0 0 (AA X 0 s.heap.size)) 5 b 22 [] []) : Z X 0 p l e rm_J7_fill_d0a16 s m args below meth c 0 0 (MQ below (QV X 0 N s.heap.size) args s 0 0 (AA X 0 s.heap.size)) 5 M 6 [(0, .ref (X.2.2 v0)), (1, .long v1), (3, .int v3), (4, .int v4)] [] := by
  unfold f_J7_fill_d0a16_L6 at he
  refine z_iload_n S dJ7_fill_d0a16_6 rfl 2 rfl ?_
  refine z_iload S dJ7_fill_d0a16_7 3 rfl ?_
  refine z_icmp_ge (tgt := 22) S he dJ7_fill_d0a16_9 (by decide) (fun he => ?_) (fun he => ?_)
  · refine z_lv (ks := []) rfl ?_
    exact hx _ (Option.some.inj he).symm
  · refine z_aload_n S dJ7_fill_d0a16_12 rfl 0 rfl ?_
    refine z_iload_n S dJ7_fill_d0a16_13 rfl 2 rfl ?_
    refine z_lload_n S dJ7_fill_d0a16_14 rfl 1 rfl ?_
    refine z_lastb S h_v0 rfl he dJ7_fill_d0a16_15 (fun M1 he => ?_)
    refine z_iinc (v := (v3 + 1)) (lv' := [(0, .ref (X.2.2 v0)), (1, .long v1), (3, .int (v3 + 1)), (4, .int v4)]) S [1, 2, 0, 3] 2 dJ7_fill_d0a16_16 rfl (by rfl) (by decide) rfl ?_
    refine z_goto (tgt := 6) S dJ7_fill_d0a16_19 (by decide) ?_
    refine z_lv (ks := [0, 1, 2, 3]) rfl ?_
    exact hc _ (Option.some.inj he).symm
set_option maxRecDepth 100000 in
set_option maxHeartbeats 4000000 in
theorem K_J7_fill_d0a16 {X : Cx} {l : Launch} {M : Mm} {a0 : Nat} {a1 : Int64} {N : Mm} (h_a0 : OK 0 a0 31) (he : f_J7_fill_d0a16 M a0 a1 = some N) : KV X 0 l yJ7_fill_d0a16 (wz yJ7_fill_d0a16 cJ7_fill_d0a16 5 none) rm_J7_fill_d0a16 [.ref (X.2.2 a0), .long a1] M N := by
  intro sz
  refine K_of (Qc := (fun sz => QV X 0 N sz)) (own := RJ7) (lv0 := [(0, .ref (X.2.2 a0)), (1, .long a1)]) (by decide +kernel) rfl (Nat.le_of_ble_eq_true rfl) rfl (fun p e s m args below meth c S => ?_) sz
  · unfold f_J7_fill_d0a16 at he
    refine z_iconst (v := 0) S dJ7_fill_d0a16_0 (by decide) ?_
    refine z_istore_n (lv' := [(0, .ref (X.2.2 a0)), (1, .long a1), (3, .int 0)]) S [1, 2, 0] dJ7_fill_d0a16_1 rfl (by decide) rfl ?_
    refine z_aload_n S dJ7_fill_d0a16_2 rfl 0 rfl ?_
    refine z_alen (v := Int32.ofNat (ln a0)) S h_a0 (cel_j h_a0.2.2) rfl rfl rfl dJ7_fill_d0a16_3 ?_
    refine z_istore (lv' := [(0, .ref (X.2.2 a0)), (1, .long a1), (3, .int 0), (4, .int (Int32.ofNat (ln a0)))]) S [1, 2, 3, 0] dJ7_fill_d0a16_4 (by decide) rfl ?_
    obtain ⟨e_2, hl, he⟩ := bnd he
    have hX : Z X 0 p l e rm_J7_fill_d0a16 s m args below meth c 0 0 (MQ below (QV X 0 N s.heap.size) args s 0 0 (AA X 0 s.heap.size)) 5 e_2 22 [] [] := by
      exact z_vret S (Option.some.inj he) dJ7_fill_d0a16_22
    have hZ9 := loopZ (f := (fun a_2 => f_J7_fill_d0a16_L6 a_2.1 a0 a1 a_2.2 (Int32.ofNat (ln a0)))) (Zh := (fun a_2 => Z X 0 p l e rm_J7_fill_d0a16 s m args below meth c 0 0 (MQ below (QV X 0 N s.heap.size) args s 0 0 (AA X 0 s.heap.size)) 5 a_2.1 6 [(0, .ref (X.2.2 a0)), (1, .long a1), (3, .int a_2.2), (4, .int (Int32.ofNat (ln a0)))] [])) (fun a_2 x hb hc hr => p_J7_fill_d0a16_L6 S h_a0 hb hc (fun b hxe => by rw [hr b hxe]; exact hX)) FU (M, 0) hl
    exact hZ9
set_option maxRecDepth 100000 in
set_option maxHeartbeats 4000000 in
theorem K_X9_at {X : Cx} {l : Launch} {M : Mm} {a0 : Nat} {a1 : Int32} {r : Int32} (h_a0 : OK 0 a0 30) (he : f_X9_at M a0 a1 = some r) : KI X 0 l yX9_at (wz yX9_at cX9_at 2 (some .int)) rm_X9_at [.ref (X.2.2 a0), .int a1] M r M := by
  intro sz
  refine K_of (Qc := (fun sz => QI X 0 r M sz)) (own := RX9) (lv0 := [(0, .ref (X.2.2 a0)), (1, .int a1)]) (by decide +kernel) rfl (Nat.le_of_ble_eq_true rfl) rfl (fun p e s m args below meth c S => ?_) sz
  · unfold f_X9_at at he
    refine z_iload_n S dX9_at_0 rfl 1 rfl ?_
    refine z_if_lt (tgt := 16) S he dX9_at_1 (by decide) (fun he => ?_) (fun he => ?_)
    · refine z_iconst (v := 0) S dX9_at_16 (by decide) ?_
      exact z_iret S (⟨Option.some.inj he, rfl⟩) dX9_at_17
    · refine z_iload_n S dX9_at_4 rfl 1 rfl ?_
      refine z_aload_n S dX9_at_5 rfl 0 rfl ?_
      refine z_alen (v := Int32.ofNat (ln a0)) S h_a0 (cel_i h_a0.2.2) rfl rfl rfl dX9_at_6 ?_
      refine z_icmp_ge (tgt := 16) S he dX9_at_7 (by decide) (fun he => ?_) (fun he => ?_)
      · refine z_iconst (v := 0) S dX9_at_16 (by decide) ?_
        exact z_iret S (⟨Option.some.inj he, rfl⟩) dX9_at_17
      · refine z_aload_n S dX9_at_10 rfl 0 rfl ?_
        refine z_iload_n S dX9_at_11 rfl 1 rfl ?_
        refine z_iald S h_a0 rfl he dX9_at_12 (fun he => ?_)
        refine z_goto (tgt := 17) S dX9_at_13 (by decide) ?_
        exact z_iret S (⟨Option.some.inj he, rfl⟩) dX9_at_17
theorem Kt_X9_at {X : Cx} {l : Launch} {M : Mm} {a0 : Nat} {a1 : Int32} {r : Int32} (h_a0 : OK 0 a0 30) (he : t_X9_at M a0 a1 = r) : KI X 0 l yX9_at (wz yX9_at cX9_at 2 (some .int)) rm_X9_at [.ref (X.2.2 a0), .int a1] M r M := K_X9_at h_a0 (by rw [te_X9_at, he])
set_option maxRecDepth 100000 in
set_option maxHeartbeats 4000000 in
theorem K_X9_put_ {X : Cx} {l : Launch} {M : Mm} {a0 : Nat} {a1 : Int32} {a2 : Int64} {N : Mm} (h_a0 : OK 0 a0 31) (he : f_X9_put_ M a0 a1 a2 = some N) : KV X 0 l yX9_put_ (wz yX9_put_ cX9_put_ 4 none) rm_X9_put_ [.ref (X.2.2 a0), .int a1, .long a2] M N := by
  intro sz
  refine K_of (Qc := (fun sz => QV X 0 N sz)) (own := RX9) (lv0 := [(0, .ref (X.2.2 a0)), (1, .int a1), (2, .long a2)]) (by decide +kernel) rfl (Nat.le_of_ble_eq_true rfl) rfl (fun p e s m args below meth c S => ?_) sz
  · unfold f_X9_put_ at he
    refine z_iload_n S dX9_put__0 rfl 1 rfl ?_
    refine z_if_lt (tgt := 14) S he dX9_put__1 (by decide) (fun he => ?_) (fun he => ?_)
    · exact z_vret S (Option.some.inj he) dX9_put__14
    · refine z_iload_n S dX9_put__4 rfl 1 rfl ?_
      refine z_aload_n S dX9_put__5 rfl 0 rfl ?_
      refine z_alen (v := Int32.ofNat (ln a0)) S h_a0 (cel_j h_a0.2.2) rfl rfl rfl dX9_put__6 ?_
      refine z_icmp_ge (tgt := 14) S he dX9_put__7 (by decide) (fun he => ?_) (fun he => ?_)
      · exact z_vret S (Option.some.inj he) dX9_put__14
      · refine z_aload_n S dX9_put__10 rfl 0 rfl ?_
        refine z_iload_n S dX9_put__11 rfl 1 rfl ?_
        refine z_lload_n S dX9_put__12 rfl 2 rfl ?_
        refine z_lastb S h_a0 rfl he dX9_put__13 (fun M1 he => ?_)
        exact z_vret S (Option.some.inj he) dX9_put__14
theorem Kt_X9_put_ {X : Cx} {l : Launch} {M : Mm} {a0 : Nat} {a1 : Int32} {a2 : Int64} {N : Mm} (h_a0 : OK 0 a0 31) (he : t_X9_put_ M a0 a1 a2 = N) : KV X 0 l yX9_put_ (wz yX9_put_ cX9_put_ 4 none) rm_X9_put_ [.ref (X.2.2 a0), .int a1, .long a2] M N := K_X9_put_ h_a0 (by rw [te_X9_put_, he])
set_option maxRecDepth 100000 in
set_option maxHeartbeats 4000000 in
theorem K_X9_at_ {X : Cx} {l : Launch} {M : Mm} {a0 : Nat} {a1 : Int32} {r : Int64} (h_a0 : OK 0 a0 31) (he : f_X9_at_ M a0 a1 = some r) : KL X 0 l yX9_at_ (wz yX9_at_ cX9_at_ 2 (some .long)) rm_X9_at_ [.ref (X.2.2 a0), .int a1] M r M := by
  intro sz
  refine K_of (Qc := (fun sz => QL X 0 r M sz)) (own := RX9) (lv0 := [(0, .ref (X.2.2 a0)), (1, .int a1)]) (by decide +kernel) rfl (Nat.le_of_ble_eq_true rfl) rfl (fun p e s m args below meth c S => ?_) sz
  · unfold f_X9_at_ at he
    refine z_iload_n S dX9_at__0 rfl 1 rfl ?_
    refine z_if_lt (tgt := 16) S he dX9_at__1 (by decide) (fun he => ?_) (fun he => ?_)
    · refine z_lconst (v := 0) S dX9_at__16 (by decide) ?_
      exact z_lret S (⟨Option.some.inj he, rfl⟩) dX9_at__17
    · refine z_iload_n S dX9_at__4 rfl 1 rfl ?_
      refine z_aload_n S dX9_at__5 rfl 0 rfl ?_
      refine z_alen (v := Int32.ofNat (ln a0)) S h_a0 (cel_j h_a0.2.2) rfl rfl rfl dX9_at__6 ?_
      refine z_icmp_ge (tgt := 16) S he dX9_at__7 (by decide) (fun he => ?_) (fun he => ?_)
      · refine z_lconst (v := 0) S dX9_at__16 (by decide) ?_
        exact z_lret S (⟨Option.some.inj he, rfl⟩) dX9_at__17
      · refine z_aload_n S dX9_at__10 rfl 0 rfl ?_
        refine z_iload_n S dX9_at__11 rfl 1 rfl ?_
        refine z_lald S h_a0 rfl he dX9_at__12 (fun he => ?_)
        refine z_goto (tgt := 17) S dX9_at__13 (by decide) ?_
        exact z_lret S (⟨Option.some.inj he, rfl⟩) dX9_at__17
theorem Kt_X9_at_ {X : Cx} {l : Launch} {M : Mm} {a0 : Nat} {a1 : Int32} {r : Int64} (h_a0 : OK 0 a0 31) (he : t_X9_at_ M a0 a1 = r) : KL X 0 l yX9_at_ (wz yX9_at_ cX9_at_ 2 (some .long)) rm_X9_at_ [.ref (X.2.2 a0), .int a1] M r M := K_X9_at_ h_a0 (by rw [te_X9_at_, he])
set_option maxRecDepth 100000 in
set_option maxHeartbeats 4000000 in
theorem K_X0_worth {X : Cx} {l : Launch} {M : Mm} {a1 : Int32} {a2 : Int32} {r : Int64}  (he : f_X0_worth M a1 a2 = r) : KL X 0 l yX0_worth (wz yX0_worth cX0_worth 3 (some .long)) rm_X0_worth [.ref (X.2.2 90), .int a1, .int a2] M r M := by
  intro sz
  refine K_of (Qc := (fun sz => QL X 0 r M sz)) (own := RX0) (lv0 := [(0, .ref (X.2.2 90)), (1, .int a1), (2, .int a2)]) (by decide +kernel) rfl (Nat.le_of_ble_eq_true rfl) rfl (fun p e s m args below meth c S => ?_) sz
  · unfold f_X0_worth at he
    refine z_aload_n S dX0_worth_0 rfl 0 rfl ?_
    refine z_getF (j := 91) S fo_RX0_9 1 rfl rfl ok_90 dX0_worth_1 ?_
    refine z_iload_n S dX0_worth_4 rfl 1 rfl ?_
    refine z_bipush (v := 10) S dX0_worth_5 (by decide) ?_
    refine z_imul S dX0_worth_7 ?_
    refine z_iload_n S dX0_worth_8 rfl 2 rfl ?_
    refine z_iadd S dX0_worth_9 ?_
    refine z_cNL (As := [.ref (X.2.2 91), .int ((a1 * 10) + a2)]) S cn_RX0_86 (Kt_X9_at_ ok_91 rfl) ⟨rfl, rfl⟩ ⟨Nat.le_of_ble_eq_true rfl, Nat.le_of_ble_eq_true rfl⟩ ⟨Nat.le_refl _, Nat.le_refl _⟩ rfl rfl (Nat.le_of_ble_eq_true rfl) dX0_worth_10 ?_
    exact z_lret S (⟨he, rfl⟩) dX0_worth_13
set_option maxRecDepth 100000 in
set_option maxHeartbeats 4000000 in
theorem K_X9_put {X : Cx} {l : Launch} {M : Mm} {a0 : Nat} {a1 : Int32} {a2 : Int32} {N : Mm} (h_a0 : OK 0 a0 30) (he : f_X9_put M a0 a1 a2 = some N) : KV X 0 l yX9_put (wz yX9_put cX9_put 3 none) rm_X9_put [.ref (X.2.2 a0), .int a1, .int a2] M N := by
  intro sz
  refine K_of (Qc := (fun sz => QV X 0 N sz)) (own := RX9) (lv0 := [(0, .ref (X.2.2 a0)), (1, .int a1), (2, .int a2)]) (by decide +kernel) rfl (Nat.le_of_ble_eq_true rfl) rfl (fun p e s m args below meth c S => ?_) sz
  · unfold f_X9_put at he
    refine z_iload_n S dX9_put_0 rfl 1 rfl ?_
    refine z_if_lt (tgt := 14) S he dX9_put_1 (by decide) (fun he => ?_) (fun he => ?_)
    · exact z_vret S (Option.some.inj he) dX9_put_14
    · refine z_iload_n S dX9_put_4 rfl 1 rfl ?_
      refine z_aload_n S dX9_put_5 rfl 0 rfl ?_
      refine z_alen (v := Int32.ofNat (ln a0)) S h_a0 (cel_i h_a0.2.2) rfl rfl rfl dX9_put_6 ?_
      refine z_icmp_ge (tgt := 14) S he dX9_put_7 (by decide) (fun he => ?_) (fun he => ?_)
      · exact z_vret S (Option.some.inj he) dX9_put_14
      · refine z_aload_n S dX9_put_10 rfl 0 rfl ?_
        refine z_iload_n S dX9_put_11 rfl 1 rfl ?_
        refine z_iload_n S dX9_put_12 rfl 2 rfl ?_
        refine z_iastb S h_a0 rfl he dX9_put_13 (fun M1 he => ?_)
        exact z_vret S (Option.some.inj he) dX9_put_14
theorem Kt_X9_put {X : Cx} {l : Launch} {M : Mm} {a0 : Nat} {a1 : Int32} {a2 : Int32} {N : Mm} (h_a0 : OK 0 a0 30) (he : t_X9_put M a0 a1 a2 = N) : KV X 0 l yX9_put (wz yX9_put cX9_put 3 none) rm_X9_put [.ref (X.2.2 a0), .int a1, .int a2] M N := K_X9_put h_a0 (by rw [te_X9_put, he])
set_option maxRecDepth 100000 in
set_option maxHeartbeats 4000000 in
theorem p_X0_reachThings_J24_75 {X : Cx} {p : Program} {l : Launch} {e : Env} {s : State} {m : MethodId} {args : Array Value} {below : List Frame} {meth : Method} {c : Code} (S : SB X 0 p s m args meth c cX0_reachThings 9 (some .boolean) RX0) {M : Mm} {N : Mm} {r : Bool} {v1 : Int32} {v2 : Int32} {v3 : Int64} {v5 : Int32} {v6 : Int64} {t0 : Int32} {x : (Mm × Int32 × Int32) ⊕ (Mm × Int32)}  (he : f_X0_reachThings_J24_75 M v1 v2 v3 v5 v6 t0 = some x) (hc : ∀ b, x = .inl b → Z X 0 p l e rm_X0_reachThings s m args below meth c 0 0 (MQ below (QI X 0 (bI r) N s.heap.size) args s 0 0 (AA X 0 s.heap.size)) 9 b.1 24 [(0, .ref (X.2.2 90)), (1, .int b.2.1), (2, .int v2), (3, .long v3), (5, .int b.2.2)] []) (hx : ∀ b, x = .inr b → Z X 0 p l e rm_X0_reachThings s m args below meth c 0 0 (MQ below (QI X 0 (bI r) N s.heap.size) args s 0 0 (AA X 0 s.heap.size)) 9 b.1 130 [(0, .ref (X.2.2 90)), (1, .int b.2), (2, .int v2)] []) : Z X 0 p l e rm_X0_reachThings s m args below meth c 0 0 (MQ below (QI X 0 (bI r) N s.heap.size) args s 0 0 (AA X 0 s.heap.size)) 9 M 75 [(0, .ref (X.2.2 90)), (1, .int v1), (2, .int v2), (3, .long v3), (5, .int v5), (6, .long v6)] [.int t0] := by
  unfold f_X0_reachThings_J24_75 at he
  refine z_istore (lv' := [(0, .ref (X.2.2 90)), (1, .int v1), (2, .int v2), (3, .long v3), (5, .int v5), (6, .long v6), (8, .int t0)]) S [1, 2, 3, 4, 5, 6, 0] dX0_reachThings_75 (by decide) rfl ?_
  refine z_iload S dX0_reachThings_77 6 rfl ?_
  refine z_if_eq (tgt := 124) S he dX0_reachThings_79 (by decide) (fun he => ?_) (fun he => ?_)
  · refine z_iinc (v := (v5 + 1)) (lv' := [(0, .ref (X.2.2 90)), (1, .int v1), (2, .int v2), (3, .long v3), (5, .int (v5 + 1)), (6, .long v6), (8, .int t0)]) S [1, 2, 3, 4, 0, 5, 6] 4 dX0_reachThings_124 rfl (by rfl) (by decide) rfl ?_
    refine z_goto (tgt := 24) S dX0_reachThings_127 (by decide) ?_
    refine z_lv (ks := [0, 1, 2, 3, 4]) rfl ?_
    exact hc _ (Option.some.inj he).symm
  · refine z_lload_n S dX0_reachThings_82 rfl 3 rfl ?_
    refine z_lload S dX0_reachThings_83 5 rfl ?_
    refine z_ladd S dX0_reachThings_85 ?_
    refine z_aload_n S dX0_reachThings_86 rfl 0 rfl ?_
    refine z_getF (j := 95) S fo_RX0_25 5 rfl rfl ok_90 dX0_reachThings_87 ?_
    refine z_iload S dX0_reachThings_90 4 rfl ?_
    refine z_cNL (As := [.ref (X.2.2 95), .int v5]) S cn_RX0_86 (Kt_X9_at_ ok_95 rfl) ⟨rfl, rfl⟩ ⟨Nat.le_of_ble_eq_true rfl, Nat.le_of_ble_eq_true rfl⟩ ⟨Nat.le_refl _, Nat.le_refl _⟩ rfl rfl (Nat.le_of_ble_eq_true rfl) dX0_reachThings_92 ?_
    refine z_lcmp S dX0_reachThings_95 ?_
    refine z_if_le (tgt := 124) S he dX0_reachThings_96 (by decide) (fun he => ?_) (fun he => ?_)
    · refine z_iinc (v := (v5 + 1)) (lv' := [(0, .ref (X.2.2 90)), (1, .int v1), (2, .int v2), (3, .long v3), (5, .int (v5 + 1)), (6, .long v6), (8, .int t0)]) S [1, 2, 3, 4, 0, 5, 6] 4 dX0_reachThings_124 rfl (by rfl) (by decide) rfl ?_
      refine z_goto (tgt := 24) S dX0_reachThings_127 (by decide) ?_
      refine z_lv (ks := [0, 1, 2, 3, 4]) rfl ?_
      exact hc _ (Option.some.inj he).symm
    · refine z_aload_n S dX0_reachThings_99 rfl 0 rfl ?_
      refine z_getF (j := 95) S fo_RX0_25 5 rfl rfl ok_90 dX0_reachThings_100 ?_
      refine z_iload S dX0_reachThings_103 4 rfl ?_
      refine z_lload_n S dX0_reachThings_105 rfl 3 rfl ?_
      refine z_lload S dX0_reachThings_106 5 rfl ?_
      refine z_ladd S dX0_reachThings_108 ?_
      obtain ⟨M1, h9, he⟩ := bnd he
      refine z_cNV (As := [.ref (X.2.2 95), .int v5, .long (v3 + v6)]) S cn_RX0_81 (Kt_X9_put_ ok_95 (Option.some.inj h9)) ⟨rfl, rfl⟩ ⟨Nat.le_of_ble_eq_true rfl, Nat.le_of_ble_eq_true rfl⟩ ⟨Nat.le_refl _, Nat.le_refl _⟩ rfl rfl (Nat.le_of_ble_eq_true rfl) dX0_reachThings_109 ?_
      refine z_aload_n S dX0_reachThings_112 rfl 0 rfl ?_
      refine z_getF (j := 96) S fo_RX0_28 6 rfl rfl ok_90 dX0_reachThings_113 ?_
      refine z_iload S dX0_reachThings_116 4 rfl ?_
      refine z_iload_n S dX0_reachThings_118 rfl 2 rfl ?_
      obtain ⟨M2, h9, he⟩ := bnd he
      refine z_cNV (As := [.ref (X.2.2 96), .int v5, .int v2]) S cn_RX0_52 (Kt_X9_put ok_96 (Option.some.inj h9)) ⟨rfl, rfl⟩ ⟨Nat.le_of_ble_eq_true rfl, Nat.le_of_ble_eq_true rfl⟩ ⟨Nat.le_refl _, Nat.le_refl _⟩ rfl rfl (Nat.le_of_ble_eq_true rfl) dX0_reachThings_119 ?_
      refine z_iconst (v := 1) S dX0_reachThings_122 (by decide) ?_
      refine z_istore_n (lv' := [(0, .ref (X.2.2 90)), (1, .int 1), (2, .int v2), (3, .long v3), (5, .int v5)]) S [1, 0, 2, 3, 4] dX0_reachThings_123 rfl (by decide) rfl ?_
      refine z_iinc (v := (v5 + 1)) (lv' := [(0, .ref (X.2.2 90)), (1, .int 1), (2, .int v2), (3, .long v3), (5, .int (v5 + 1))]) S [1, 2, 3, 4, 0] 4 dX0_reachThings_124 rfl (by rfl) (by decide) rfl ?_
      refine z_goto (tgt := 24) S dX0_reachThings_127 (by decide) ?_
      refine z_lv (ks := [0, 1, 2, 3, 4]) rfl ?_
      exact hc _ (Option.some.inj he).symm
set_option maxRecDepth 100000 in
set_option maxHeartbeats 4000000 in
theorem p_X0_reachThings_J24_74 {X : Cx} {p : Program} {l : Launch} {e : Env} {s : State} {m : MethodId} {args : Array Value} {below : List Frame} {meth : Method} {c : Code} (S : SB X 0 p s m args meth c cX0_reachThings 9 (some .boolean) RX0) {M : Mm} {N : Mm} {r : Bool} {v1 : Int32} {v2 : Int32} {v3 : Int64} {v5 : Int32} {v6 : Int64} {x : (Mm × Int32 × Int32) ⊕ (Mm × Int32)}  (he : f_X0_reachThings_J24_74 M v1 v2 v3 v5 v6 = some x) (hc : ∀ b, x = .inl b → Z X 0 p l e rm_X0_reachThings s m args below meth c 0 0 (MQ below (QI X 0 (bI r) N s.heap.size) args s 0 0 (AA X 0 s.heap.size)) 9 b.1 24 [(0, .ref (X.2.2 90)), (1, .int b.2.1), (2, .int v2), (3, .long v3), (5, .int b.2.2)] []) (hx : ∀ b, x = .inr b → Z X 0 p l e rm_X0_reachThings s m args below meth c 0 0 (MQ below (QI X 0 (bI r) N s.heap.size) args s 0 0 (AA X 0 s.heap.size)) 9 b.1 130 [(0, .ref (X.2.2 90)), (1, .int b.2), (2, .int v2)] []) : Z X 0 p l e rm_X0_reachThings s m args below meth c 0 0 (MQ below (QI X 0 (bI r) N s.heap.size) args s 0 0 (AA X 0 s.heap.size)) 9 M 74 [(0, .ref (X.2.2 90)), (1, .int v1), (2, .int v2), (3, .long v3), (5, .int v5), (6, .long v6)] [] := by
  unfold f_X0_reachThings_J24_74 at he
  refine z_iconst (v := 0) S dX0_reachThings_74 (by decide) ?_
  exact p_X0_reachThings_J24_75 S  he hc hx
set_option maxRecDepth 100000 in
set_option maxHeartbeats 4000000 in
theorem p_X0_reachThings_L24 {X : Cx} {p : Program} {l : Launch} {e : Env} {s : State} {m : MethodId} {args : Array Value} {below : List Frame} {meth : Method} {c : Code} (S : SB X 0 p s m args meth c cX0_reachThings 9 (some .boolean) RX0) {M : Mm} {N : Mm} {r : Bool} {v1 : Int32} {v2 : Int32} {v3 : Int64} {v5 : Int32} {x : (Mm × Int32 × Int32) ⊕ (Mm × Int32)}  (he : f_X0_reachThings_L24 M v1 v2 v3 v5 = some x) (hc : ∀ b, x = .inl b → Z X 0 p l e rm_X0_reachThings s m args below meth c 0 0 (MQ below (QI X 0 (bI r) N s.heap.size) args s 0 0 (AA X 0 s.heap.size)) 9 b.1 24 [(0, .ref (X.2.2 90)), (1, .int b.2.1), (2, .int v2), (3, .long v3), (5, .int b.2.2)] []) (hx : ∀ b, x = .inr b → Z X 0 p l e rm_X0_reachThings s m args below meth c 0 0 (MQ below (QI X 0 (bI r) N s.heap.size) args s 0 0 (AA X 0 s.heap.size)) 9 b.1 130 [(0, .ref (X.2.2 90)), (1, .int b.2), (2, .int v2)] []) : Z X 0 p l e rm_X0_reachThings s m args below meth c 0 0 (MQ below (QI X 0 (bI r) N s.heap.size) args s 0 0 (AA X 0 s.heap.size)) 9 M 24 [(0, .ref (X.2.2 90)), (1, .int v1), (2, .int v2), (3, .long v3), (5, .int v5)] [] := by
  unfold f_X0_reachThings_L24 at he
  refine z_iload S dX0_reachThings_24 4 rfl ?_
  refine z_aload_n S dX0_reachThings_26 rfl 0 rfl ?_
  refine z_getI S fo_RX0_37 rfl ok_90 dX0_reachThings_27 ?_
  refine z_icmp_ge (tgt := 130) S he dX0_reachThings_30 (by decide) (fun he => ?_) (fun he => ?_)
  · refine z_lv (ks := [0, 1, 2]) rfl ?_
    exact hx _ (Option.some.inj he).symm
  · refine z_lload_n S dX0_reachThings_33 rfl 3 rfl ?_
    refine z_ldc2 (v := (-1000000000000000000)) S kc_RX0_90 dX0_reachThings_34 ?_
    refine z_lcmp S dX0_reachThings_37 ?_
    refine z_if_eq (tgt := 130) S he dX0_reachThings_38 (by decide) (fun he => ?_) (fun he => ?_)
    · refine z_lv (ks := [0, 1, 2]) rfl ?_
      exact hx _ (Option.some.inj he).symm
    · refine z_aload_n S dX0_reachThings_41 rfl 0 rfl ?_
      refine z_iload S dX0_reachThings_42 4 rfl ?_
      refine z_iload_n S dX0_reachThings_44 rfl 2 rfl ?_
      refine z_cVL (As := [.int v5, .int v2]) S cv_RX0_105 (K_X0_worth  rfl) ok_90 (by decide) (q := (RX0, TX0, 8)) rfl rfl ⟨rfl, rfl⟩ ⟨Nat.le_of_ble_eq_true rfl, Nat.le_of_ble_eq_true rfl⟩ ⟨Nat.le_refl _, Nat.le_refl _⟩ rfl rfl (Nat.le_of_ble_eq_true rfl) dX0_reachThings_45 ?_
      refine z_lstore (lv' := [(0, .ref (X.2.2 90)), (1, .int v1), (2, .int v2), (3, .long v3), (5, .int v5), (6, .long (f_X0_worth M v5 v2))]) S [1, 2, 3, 4, 5, 0] dX0_reachThings_48 (by decide) rfl ?_
      refine z_lload S dX0_reachThings_50 5 rfl ?_
      refine z_lconst (v := 0) S dX0_reachThings_52 (by decide) ?_
      refine z_lcmp S dX0_reachThings_53 ?_
      refine z_if_le (tgt := 74) S he dX0_reachThings_54 (by decide) (fun he => ?_) (fun he => ?_)
      · exact p_X0_reachThings_J24_74 S  he hc hx
      · refine z_aload_n S dX0_reachThings_57 rfl 0 rfl ?_
        refine z_getF (j := 92) S fo_RX0_15 2 rfl rfl ok_90 dX0_reachThings_58 ?_
        refine z_iload_n S dX0_reachThings_61 rfl 2 rfl ?_
        refine z_cNI (As := [.ref (X.2.2 92), .int v2]) S cn_RX0_95 (Kt_X9_at ok_92 rfl) ⟨rfl, rfl⟩ ⟨Nat.le_of_ble_eq_true rfl, Nat.le_of_ble_eq_true rfl⟩ ⟨Nat.le_refl _, Nat.le_refl _⟩ rfl rfl (Nat.le_of_ble_eq_true rfl) dX0_reachThings_62 ?_
        refine z_iload S dX0_reachThings_65 4 rfl ?_
        refine z_icmp_eq (tgt := 74) S he dX0_reachThings_67 (by decide) (fun he => ?_) (fun he => ?_)
        · exact p_X0_reachThings_J24_74 S  he hc hx
        · refine z_iconst (v := 1) S dX0_reachThings_70 (by decide) ?_
          refine z_goto (tgt := 75) S dX0_reachThings_71 (by decide) ?_
          exact p_X0_reachThings_J24_75 S  he hc hx
set_option maxRecDepth 100000 in
set_option maxHeartbeats 4000000 in
theorem p_X0_reachThings_L4 {X : Cx} {p : Program} {l : Launch} {e : Env} {s : State} {m : MethodId} {args : Array Value} {below : List Frame} {meth : Method} {c : Code} (S : SB X 0 p s m args meth c cX0_reachThings 9 (some .boolean) RX0) {M : Mm} {N : Mm} {r : Bool} {v1 : Int32} {v2 : Int32} {x : (Mm × Int32 × Int32) ⊕ (Mm × Int32)}  (he : f_X0_reachThings_L4 M v1 v2 = some x) (hc : ∀ b, x = .inl b → Z X 0 p l e rm_X0_reachThings s m args below meth c 0 0 (MQ below (QI X 0 (bI r) N s.heap.size) args s 0 0 (AA X 0 s.heap.size)) 9 b.1 4 [(0, .ref (X.2.2 90)), (1, .int b.2.1), (2, .int b.2.2)] []) (hx : ∀ b, x = .inr b → Z X 0 p l e rm_X0_reachThings s m args below meth c 0 0 (MQ below (QI X 0 (bI r) N s.heap.size) args s 0 0 (AA X 0 s.heap.size)) 9 b.1 136 [(1, .int b.2)] []) : Z X 0 p l e rm_X0_reachThings s m args below meth c 0 0 (MQ below (QI X 0 (bI r) N s.heap.size) args s 0 0 (AA X 0 s.heap.size)) 9 M 4 [(0, .ref (X.2.2 90)), (1, .int v1), (2, .int v2)] [] := by
  unfold f_X0_reachThings_L4 at he
  refine z_iload_n S dX0_reachThings_4 rfl 2 rfl ?_
  refine z_aload_n S dX0_reachThings_5 rfl 0 rfl ?_
  refine z_getI S fo_RX0_41 rfl ok_90 dX0_reachThings_6 ?_
  refine z_icmp_ge (tgt := 136) S he dX0_reachThings_9 (by decide) (fun he => ?_) (fun he => ?_)
  · refine z_lv (ks := [1]) rfl ?_
    exact hx _ (Option.some.inj he).symm
  · refine z_aload_n S dX0_reachThings_12 rfl 0 rfl ?_
    refine z_getF (j := 94) S fo_RX0_22 4 rfl rfl ok_90 dX0_reachThings_13 ?_
    refine z_iload_n S dX0_reachThings_16 rfl 2 rfl ?_
    refine z_cNL (As := [.ref (X.2.2 94), .int v2]) S cn_RX0_86 (Kt_X9_at_ ok_94 rfl) ⟨rfl, rfl⟩ ⟨Nat.le_of_ble_eq_true rfl, Nat.le_of_ble_eq_true rfl⟩ ⟨Nat.le_refl _, Nat.le_refl _⟩ rfl rfl (Nat.le_of_ble_eq_true rfl) dX0_reachThings_17 ?_
    refine z_lstore_n (lv' := [(0, .ref (X.2.2 90)), (1, .int v1), (2, .int v2), (3, .long (t_X9_at_ M 94 v2))]) S [1, 2, 3, 0] dX0_reachThings_20 rfl (by decide) rfl ?_
    refine z_iconst (v := 0) S dX0_reachThings_21 (by decide) ?_
    refine z_istore (lv' := [(0, .ref (X.2.2 90)), (1, .int v1), (2, .int v2), (3, .long (t_X9_at_ M 94 v2)), (5, .int 0)]) S [1, 2, 3, 4, 0] dX0_reachThings_22 (by decide) rfl ?_
    obtain ⟨e_3, hl, he⟩ := bnd he
    have hX : Z X 0 p l e rm_X0_reachThings s m args below meth c 0 0 (MQ below (QI X 0 (bI r) N s.heap.size) args s 0 0 (AA X 0 s.heap.size)) 9 e_3.1 130 [(0, .ref (X.2.2 90)), (1, .int e_3.2), (2, .int v2)] [] := by
      refine z_iinc (v := (v2 + 1)) (lv' := [(0, .ref (X.2.2 90)), (1, .int e_3.2), (2, .int (v2 + 1))]) S [1, 2, 0] 2 dX0_reachThings_130 rfl (by rfl) (by decide) rfl ?_
      refine z_goto (tgt := 4) S dX0_reachThings_133 (by decide) ?_
      refine z_lv (ks := [0, 1, 2]) rfl ?_
      exact hc _ (Option.some.inj he).symm
    have hZ9 := loopZ (f := (fun a_3 => f_X0_reachThings_L24 a_3.1 a_3.2.1 v2 (t_X9_at_ M 94 v2) a_3.2.2)) (Zh := (fun a_3 => Z X 0 p l e rm_X0_reachThings s m args below meth c 0 0 (MQ below (QI X 0 (bI r) N s.heap.size) args s 0 0 (AA X 0 s.heap.size)) 9 a_3.1 24 [(0, .ref (X.2.2 90)), (1, .int a_3.2.1), (2, .int v2), (3, .long (t_X9_at_ M 94 v2)), (5, .int a_3.2.2)] [])) (fun a_3 x hb hc hr => p_X0_reachThings_L24 S  hb hc (fun b hxe => by rw [hr b hxe]; exact hX)) FU (M, v1, 0) hl
    exact hZ9
set_option maxRecDepth 100000 in
set_option maxHeartbeats 4000000 in
theorem K_X0_reachThings {X : Cx} {l : Launch} {M : Mm} {r : Bool} {N : Mm}  (he : f_X0_reachThings M  = some (r, N)) : KI X 0 l yX0_reachThings (wz yX0_reachThings cX0_reachThings 9 (some .boolean)) rm_X0_reachThings [.ref (X.2.2 90)] M (bI r) N := by
  intro sz
  refine K_of (Qc := (fun sz => QI X 0 (bI r) N sz)) (own := RX0) (lv0 := [(0, .ref (X.2.2 90))]) (by decide +kernel) rfl (Nat.le_of_ble_eq_true rfl) rfl (fun p e s m args below meth c S => ?_) sz
  · unfold f_X0_reachThings at he
    refine z_iconst (v := 0) S dX0_reachThings_0 (by decide) ?_
    refine z_istore_n (lv' := [(0, .ref (X.2.2 90)), (1, .int 0)]) S [1, 0] dX0_reachThings_1 rfl (by decide) rfl ?_
    refine z_iconst (v := 0) S dX0_reachThings_2 (by decide) ?_
    refine z_istore_n (lv' := [(0, .ref (X.2.2 90)), (1, .int 0), (2, .int 0)]) S [1, 2, 0] dX0_reachThings_3 rfl (by decide) rfl ?_
    obtain ⟨e_4, hl, he⟩ := bnd he
    have hX : Z X 0 p l e rm_X0_reachThings s m args below meth c 0 0 (MQ below (QI X 0 (bI r) N s.heap.size) args s 0 0 (AA X 0 s.heap.size)) 9 e_4.1 136 [(1, .int e_4.2)] [] := by
      refine z_iload_n S dX0_reachThings_136 rfl 0 rfl ?_
      rcases z_sw he with ⟨hk9, he⟩ | ⟨hk9, he⟩
      · exact z_zretv (b := false) S hk9 (Prod.mk.inj (Option.some.inj he)) dX0_reachThings_137
      · obtain ⟨hk8, he⟩ := grd he
        exact z_zretv (b := true) S hk8 (Prod.mk.inj (Option.some.inj he)) dX0_reachThings_137
    have hZ9 := loopZ (f := (fun a_4 => f_X0_reachThings_L4 a_4.1 a_4.2.1 a_4.2.2)) (Zh := (fun a_4 => Z X 0 p l e rm_X0_reachThings s m args below meth c 0 0 (MQ below (QI X 0 (bI r) N s.heap.size) args s 0 0 (AA X 0 s.heap.size)) 9 a_4.1 4 [(0, .ref (X.2.2 90)), (1, .int a_4.2.1), (2, .int a_4.2.2)] [])) (fun a_4 x hb hc hr => p_X0_reachThings_L4 S  hb hc (fun b hxe => by rw [hr b hxe]; exact hX)) FU (M, 0, 0) hl
    exact hZ9
set_option maxRecDepth 100000 in
set_option maxHeartbeats 4000000 in
theorem p_X0_reachVisitors_J4_40 {X : Cx} {p : Program} {l : Launch} {e : Env} {s : State} {m : MethodId} {args : Array Value} {below : List Frame} {meth : Method} {c : Code} (S : SB X 0 p s m args meth c cX0_reachVisitors 6 (some .boolean) RX0) {M : Mm} {N : Mm} {r : Bool} {v1 : Int32} {v2 : Int32} {v3 : Int32} {t0 : Int64} {x : (Mm × Int32 × Int32) ⊕ (Mm × Int32)}  (he : f_X0_reachVisitors_J4_40 M v1 v2 v3 t0 = some x) (hc : ∀ b, x = .inl b → Z X 0 p l e rm_X0_reachVisitors s m args below meth c 0 0 (MQ below (QI X 0 (bI r) N s.heap.size) args s 0 0 (AA X 0 s.heap.size)) 6 b.1 4 [(0, .ref (X.2.2 90)), (1, .int b.2.1), (2, .int b.2.2)] []) (hx : ∀ b, x = .inr b → Z X 0 p l e rm_X0_reachVisitors s m args below meth c 0 0 (MQ below (QI X 0 (bI r) N s.heap.size) args s 0 0 (AA X 0 s.heap.size)) 6 b.1 97 [(1, .int b.2)] []) : Z X 0 p l e rm_X0_reachVisitors s m args below meth c 0 0 (MQ below (QI X 0 (bI r) N s.heap.size) args s 0 0 (AA X 0 s.heap.size)) 6 M 40 [(0, .ref (X.2.2 90)), (1, .int v1), (2, .int v2), (3, .int v3)] [.long t0] := by
  unfold f_X0_reachVisitors_J4_40 at he
  refine z_lstore (lv' := [(0, .ref (X.2.2 90)), (1, .int v1), (2, .int v2), (3, .int v3), (4, .long t0)]) S [1, 2, 3, 4, 0] dX0_reachVisitors_40 (by decide) rfl ?_
  refine z_lload S dX0_reachVisitors_42 4 rfl ?_
  refine z_ldc2 (v := (-1000000000000000000)) S kc_RX0_90 dX0_reachVisitors_44 ?_
  refine z_lcmp S dX0_reachVisitors_47 ?_
  refine z_if_eq (tgt := 91) S he dX0_reachVisitors_48 (by decide) (fun he => ?_) (fun he => ?_)
  · refine z_iinc (v := (v2 + 1)) (lv' := [(0, .ref (X.2.2 90)), (1, .int v1), (2, .int (v2 + 1)), (3, .int v3), (4, .long t0)]) S [1, 2, 0, 3, 4] 2 dX0_reachVisitors_91 rfl (by rfl) (by decide) rfl ?_
    refine z_goto (tgt := 4) S dX0_reachVisitors_94 (by decide) ?_
    refine z_lv (ks := [0, 1, 2]) rfl ?_
    exact hc _ (Option.some.inj he).symm
  · refine z_lload S dX0_reachVisitors_51 4 rfl ?_
    refine z_aload_n S dX0_reachVisitors_53 rfl 0 rfl ?_
    refine z_iload_n S dX0_reachVisitors_54 rfl 3 rfl ?_
    refine z_iload_n S dX0_reachVisitors_55 rfl 2 rfl ?_
    refine z_cVL (As := [.int v3, .int v2]) S cv_RX0_105 (K_X0_worth  rfl) ok_90 (by decide) (q := (RX0, TX0, 8)) rfl rfl ⟨rfl, rfl⟩ ⟨Nat.le_of_ble_eq_true rfl, Nat.le_of_ble_eq_true rfl⟩ ⟨Nat.le_refl _, Nat.le_refl _⟩ rfl rfl (Nat.le_of_ble_eq_true rfl) dX0_reachVisitors_56 ?_
    refine z_lsub S dX0_reachVisitors_59 ?_
    refine z_aload_n S dX0_reachVisitors_60 rfl 0 rfl ?_
    refine z_getF (j := 94) S fo_RX0_22 4 rfl rfl ok_90 dX0_reachVisitors_61 ?_
    refine z_iload_n S dX0_reachVisitors_64 rfl 2 rfl ?_
    refine z_cNL (As := [.ref (X.2.2 94), .int v2]) S cn_RX0_86 (Kt_X9_at_ ok_94 rfl) ⟨rfl, rfl⟩ ⟨Nat.le_of_ble_eq_true rfl, Nat.le_of_ble_eq_true rfl⟩ ⟨Nat.le_refl _, Nat.le_refl _⟩ rfl rfl (Nat.le_of_ble_eq_true rfl) dX0_reachVisitors_65 ?_
    refine z_lcmp S dX0_reachVisitors_68 ?_
    refine z_if_le (tgt := 91) S he dX0_reachVisitors_69 (by decide) (fun he => ?_) (fun he => ?_)
    · refine z_iinc (v := (v2 + 1)) (lv' := [(0, .ref (X.2.2 90)), (1, .int v1), (2, .int (v2 + 1)), (3, .int v3), (4, .long t0)]) S [1, 2, 0, 3, 4] 2 dX0_reachVisitors_91 rfl (by rfl) (by decide) rfl ?_
      refine z_goto (tgt := 4) S dX0_reachVisitors_94 (by decide) ?_
      refine z_lv (ks := [0, 1, 2]) rfl ?_
      exact hc _ (Option.some.inj he).symm
    · refine z_aload_n S dX0_reachVisitors_72 rfl 0 rfl ?_
      refine z_getF (j := 94) S fo_RX0_22 4 rfl rfl ok_90 dX0_reachVisitors_73 ?_
      refine z_iload_n S dX0_reachVisitors_76 rfl 2 rfl ?_
      refine z_lload S dX0_reachVisitors_77 4 rfl ?_
      refine z_aload_n S dX0_reachVisitors_79 rfl 0 rfl ?_
      refine z_iload_n S dX0_reachVisitors_80 rfl 3 rfl ?_
      refine z_iload_n S dX0_reachVisitors_81 rfl 2 rfl ?_
      refine z_cVL (As := [.int v3, .int v2]) S cv_RX0_105 (K_X0_worth  rfl) ok_90 (by decide) (q := (RX0, TX0, 8)) rfl rfl ⟨rfl, rfl⟩ ⟨Nat.le_of_ble_eq_true rfl, Nat.le_of_ble_eq_true rfl⟩ ⟨Nat.le_refl _, Nat.le_refl _⟩ rfl rfl (Nat.le_of_ble_eq_true rfl) dX0_reachVisitors_82 ?_
      refine z_lsub S dX0_reachVisitors_85 ?_
      obtain ⟨M1, h9, he⟩ := bnd he
      refine z_cNV (As := [.ref (X.2.2 94), .int v2, .long (t0 - (f_X0_worth M v3 v2))]) S cn_RX0_81 (Kt_X9_put_ ok_94 (Option.some.inj h9)) ⟨rfl, rfl⟩ ⟨Nat.le_of_ble_eq_true rfl, Nat.le_of_ble_eq_true rfl⟩ ⟨Nat.le_refl _, Nat.le_refl _⟩ rfl rfl (Nat.le_of_ble_eq_true rfl) dX0_reachVisitors_86 ?_
      refine z_iconst (v := 1) S dX0_reachVisitors_89 (by decide) ?_
      refine z_istore_n (lv' := [(0, .ref (X.2.2 90)), (1, .int 1), (2, .int v2)]) S [1, 0, 2] dX0_reachVisitors_90 rfl (by decide) rfl ?_
      refine z_iinc (v := (v2 + 1)) (lv' := [(0, .ref (X.2.2 90)), (1, .int 1), (2, .int (v2 + 1))]) S [1, 2, 0] 2 dX0_reachVisitors_91 rfl (by rfl) (by decide) rfl ?_
      refine z_goto (tgt := 4) S dX0_reachVisitors_94 (by decide) ?_
      refine z_lv (ks := [0, 1, 2]) rfl ?_
      exact hc _ (Option.some.inj he).symm
set_option maxRecDepth 100000 in
set_option maxHeartbeats 4000000 in
theorem p_X0_reachVisitors_L4 {X : Cx} {p : Program} {l : Launch} {e : Env} {s : State} {m : MethodId} {args : Array Value} {below : List Frame} {meth : Method} {c : Code} (S : SB X 0 p s m args meth c cX0_reachVisitors 6 (some .boolean) RX0) {M : Mm} {N : Mm} {r : Bool} {v1 : Int32} {v2 : Int32} {x : (Mm × Int32 × Int32) ⊕ (Mm × Int32)}  (he : f_X0_reachVisitors_L4 M v1 v2 = some x) (hc : ∀ b, x = .inl b → Z X 0 p l e rm_X0_reachVisitors s m args below meth c 0 0 (MQ below (QI X 0 (bI r) N s.heap.size) args s 0 0 (AA X 0 s.heap.size)) 6 b.1 4 [(0, .ref (X.2.2 90)), (1, .int b.2.1), (2, .int b.2.2)] []) (hx : ∀ b, x = .inr b → Z X 0 p l e rm_X0_reachVisitors s m args below meth c 0 0 (MQ below (QI X 0 (bI r) N s.heap.size) args s 0 0 (AA X 0 s.heap.size)) 6 b.1 97 [(1, .int b.2)] []) : Z X 0 p l e rm_X0_reachVisitors s m args below meth c 0 0 (MQ below (QI X 0 (bI r) N s.heap.size) args s 0 0 (AA X 0 s.heap.size)) 6 M 4 [(0, .ref (X.2.2 90)), (1, .int v1), (2, .int v2)] [] := by
  unfold f_X0_reachVisitors_L4 at he
  refine z_iload_n S dX0_reachVisitors_4 rfl 2 rfl ?_
  refine z_aload_n S dX0_reachVisitors_5 rfl 0 rfl ?_
  refine z_getI S fo_RX0_41 rfl ok_90 dX0_reachVisitors_6 ?_
  refine z_icmp_ge (tgt := 97) S he dX0_reachVisitors_9 (by decide) (fun he => ?_) (fun he => ?_)
  · refine z_lv (ks := [1]) rfl ?_
    exact hx _ (Option.some.inj he).symm
  · refine z_aload_n S dX0_reachVisitors_12 rfl 0 rfl ?_
    refine z_getF (j := 92) S fo_RX0_15 2 rfl rfl ok_90 dX0_reachVisitors_13 ?_
    refine z_iload_n S dX0_reachVisitors_16 rfl 2 rfl ?_
    refine z_cNI (As := [.ref (X.2.2 92), .int v2]) S cn_RX0_95 (Kt_X9_at ok_92 rfl) ⟨rfl, rfl⟩ ⟨Nat.le_of_ble_eq_true rfl, Nat.le_of_ble_eq_true rfl⟩ ⟨Nat.le_refl _, Nat.le_refl _⟩ rfl rfl (Nat.le_of_ble_eq_true rfl) dX0_reachVisitors_17 ?_
    refine z_istore_n (lv' := [(0, .ref (X.2.2 90)), (1, .int v1), (2, .int v2), (3, .int (t_X9_at M 92 v2))]) S [1, 2, 3, 0] dX0_reachVisitors_20 rfl (by decide) rfl ?_
    refine z_iload_n S dX0_reachVisitors_21 rfl 3 rfl ?_
    refine z_iconst (v := (-1)) S dX0_reachVisitors_22 (by decide) ?_
    refine z_icmp_ne (tgt := 32) S he dX0_reachVisitors_23 (by decide) (fun he => ?_) (fun he => ?_)
    · refine z_aload_n S dX0_reachVisitors_32 rfl 0 rfl ?_
      refine z_getF (j := 95) S fo_RX0_25 5 rfl rfl ok_90 dX0_reachVisitors_33 ?_
      refine z_iload_n S dX0_reachVisitors_36 rfl 3 rfl ?_
      refine z_cNL (As := [.ref (X.2.2 95), .int (t_X9_at M 92 v2)]) S cn_RX0_86 (Kt_X9_at_ ok_95 rfl) ⟨rfl, rfl⟩ ⟨Nat.le_of_ble_eq_true rfl, Nat.le_of_ble_eq_true rfl⟩ ⟨Nat.le_refl _, Nat.le_refl _⟩ rfl rfl (Nat.le_of_ble_eq_true rfl) dX0_reachVisitors_37 ?_
      exact p_X0_reachVisitors_J4_40 S  he hc hx
    · refine z_ldc2 (v := (-1000000000000000000)) S kc_RX0_90 dX0_reachVisitors_26 ?_
      refine z_goto (tgt := 40) S dX0_reachVisitors_29 (by decide) ?_
      exact p_X0_reachVisitors_J4_40 S  he hc hx
set_option maxRecDepth 100000 in
set_option maxHeartbeats 4000000 in
theorem K_X0_reachVisitors {X : Cx} {l : Launch} {M : Mm} {r : Bool} {N : Mm}  (he : f_X0_reachVisitors M  = some (r, N)) : KI X 0 l yX0_reachVisitors (wz yX0_reachVisitors cX0_reachVisitors 6 (some .boolean)) rm_X0_reachVisitors [.ref (X.2.2 90)] M (bI r) N := by
  intro sz
  refine K_of (Qc := (fun sz => QI X 0 (bI r) N sz)) (own := RX0) (lv0 := [(0, .ref (X.2.2 90))]) (by decide +kernel) rfl (Nat.le_of_ble_eq_true rfl) rfl (fun p e s m args below meth c S => ?_) sz
  · unfold f_X0_reachVisitors at he
    refine z_iconst (v := 0) S dX0_reachVisitors_0 (by decide) ?_
    refine z_istore_n (lv' := [(0, .ref (X.2.2 90)), (1, .int 0)]) S [1, 0] dX0_reachVisitors_1 rfl (by decide) rfl ?_
    refine z_iconst (v := 0) S dX0_reachVisitors_2 (by decide) ?_
    refine z_istore_n (lv' := [(0, .ref (X.2.2 90)), (1, .int 0), (2, .int 0)]) S [1, 2, 0] dX0_reachVisitors_3 rfl (by decide) rfl ?_
    obtain ⟨e_2, hl, he⟩ := bnd he
    have hX : Z X 0 p l e rm_X0_reachVisitors s m args below meth c 0 0 (MQ below (QI X 0 (bI r) N s.heap.size) args s 0 0 (AA X 0 s.heap.size)) 6 e_2.1 97 [(1, .int e_2.2)] [] := by
      refine z_iload_n S dX0_reachVisitors_97 rfl 0 rfl ?_
      rcases z_sw he with ⟨hk9, he⟩ | ⟨hk9, he⟩
      · exact z_zretv (b := false) S hk9 (Prod.mk.inj (Option.some.inj he)) dX0_reachVisitors_98
      · obtain ⟨hk8, he⟩ := grd he
        exact z_zretv (b := true) S hk8 (Prod.mk.inj (Option.some.inj he)) dX0_reachVisitors_98
    have hZ9 := loopZ (f := (fun a_2 => f_X0_reachVisitors_L4 a_2.1 a_2.2.1 a_2.2.2)) (Zh := (fun a_2 => Z X 0 p l e rm_X0_reachVisitors s m args below meth c 0 0 (MQ below (QI X 0 (bI r) N s.heap.size) args s 0 0 (AA X 0 s.heap.size)) 6 a_2.1 4 [(0, .ref (X.2.2 90)), (1, .int a_2.2.1), (2, .int a_2.2.2)] [])) (fun a_2 x hb hc hr => p_X0_reachVisitors_L4 S  hb hc (fun b hxe => by rw [hr b hxe]; exact hX)) FU (M, 0, 0) hl
    exact hZ9
set_option maxRecDepth 100000 in
set_option maxHeartbeats 4000000 in
theorem p_X0_bestEnd_J12_44 {X : Cx} {p : Program} {l : Launch} {e : Env} {s : State} {m : MethodId} {args : Array Value} {below : List Frame} {meth : Method} {c : Code} (S : SB X 0 p s m args meth c cX0_bestEnd 6 (some .int) RX0) {M : Mm} {N : Mm} {r : Int32} {v1 : Int32} {t0 : Int64} {t1 : Int32} {x : (Mm × Int32) ⊕ Mm}  (he : f_X0_bestEnd_J12_44 M v1 t0 t1 = some x) (hc : ∀ b, x = .inl b → Z X 0 p l e rm_X0_bestEnd s m args below meth c 0 0 (MQ below (QI X 0 r N s.heap.size) args s 0 0 (AA X 0 s.heap.size)) 6 b.1 12 [(0, .ref (X.2.2 90)), (1, .int b.2)] []) (hx : ∀ b, x = .inr b → Z X 0 p l e rm_X0_bestEnd s m args below meth c 0 0 (MQ below (QI X 0 r N s.heap.size) args s 0 0 (AA X 0 s.heap.size)) 6 b 53 [(0, .ref (X.2.2 90))] []) : Z X 0 p l e rm_X0_bestEnd s m args below meth c 0 0 (MQ below (QI X 0 r N s.heap.size) args s 0 0 (AA X 0 s.heap.size)) 6 M 44 [(0, .ref (X.2.2 90)), (1, .int v1)] [.long t0, .int t1, .ref (X.2.2 94)] := by
  unfold f_X0_bestEnd_J12_44 at he
  obtain ⟨M2, h9, he⟩ := bnd he
  refine z_cNV (As := [.ref (X.2.2 94), .int t1, .long t0]) S cn_RX0_81 (Kt_X9_put_ ok_94 (Option.some.inj h9)) ⟨rfl, rfl⟩ ⟨Nat.le_of_ble_eq_true rfl, Nat.le_of_ble_eq_true rfl⟩ ⟨Nat.le_refl _, Nat.le_refl _⟩ rfl rfl (Nat.le_of_ble_eq_true rfl) dX0_bestEnd_44 ?_
  refine z_iinc (v := (v1 + 1)) (lv' := [(0, .ref (X.2.2 90)), (1, .int (v1 + 1))]) S [1, 0] 1 dX0_bestEnd_47 rfl (by rfl) (by decide) rfl ?_
  refine z_goto (tgt := 12) S dX0_bestEnd_50 (by decide) ?_
  refine z_lv (ks := [0, 1]) rfl ?_
  exact hc _ (Option.some.inj he).symm
set_option maxRecDepth 100000 in
set_option maxHeartbeats 4000000 in
theorem p_X0_bestEnd_L12 {X : Cx} {p : Program} {l : Launch} {e : Env} {s : State} {m : MethodId} {args : Array Value} {below : List Frame} {meth : Method} {c : Code} (S : SB X 0 p s m args meth c cX0_bestEnd 6 (some .int) RX0) {M : Mm} {N : Mm} {r : Int32} {v1 : Int32} {x : (Mm × Int32) ⊕ Mm}  (he : f_X0_bestEnd_L12 M v1 = some x) (hc : ∀ b, x = .inl b → Z X 0 p l e rm_X0_bestEnd s m args below meth c 0 0 (MQ below (QI X 0 r N s.heap.size) args s 0 0 (AA X 0 s.heap.size)) 6 b.1 12 [(0, .ref (X.2.2 90)), (1, .int b.2)] []) (hx : ∀ b, x = .inr b → Z X 0 p l e rm_X0_bestEnd s m args below meth c 0 0 (MQ below (QI X 0 r N s.heap.size) args s 0 0 (AA X 0 s.heap.size)) 6 b 53 [(0, .ref (X.2.2 90))] []) : Z X 0 p l e rm_X0_bestEnd s m args below meth c 0 0 (MQ below (QI X 0 r N s.heap.size) args s 0 0 (AA X 0 s.heap.size)) 6 M 12 [(0, .ref (X.2.2 90)), (1, .int v1)] [] := by
  unfold f_X0_bestEnd_L12 at he
  refine z_iload_n S dX0_bestEnd_12 rfl 1 rfl ?_
  refine z_aload_n S dX0_bestEnd_13 rfl 0 rfl ?_
  refine z_getI S fo_RX0_41 rfl ok_90 dX0_bestEnd_14 ?_
  refine z_icmp_ge (tgt := 53) S he dX0_bestEnd_17 (by decide) (fun he => ?_) (fun he => ?_)
  · refine z_lv (ks := [0]) rfl ?_
    exact hx _ (Option.some.inj he).symm
  · refine z_aload_n S dX0_bestEnd_20 rfl 0 rfl ?_
    refine z_getF (j := 94) S fo_RX0_22 4 rfl rfl ok_90 dX0_bestEnd_21 ?_
    refine z_iload_n S dX0_bestEnd_24 rfl 1 rfl ?_
    refine z_aload_n S dX0_bestEnd_25 rfl 0 rfl ?_
    refine z_getF (j := 92) S fo_RX0_15 2 rfl rfl ok_90 dX0_bestEnd_26 ?_
    refine z_iload_n S dX0_bestEnd_29 rfl 1 rfl ?_
    refine z_cNI (As := [.ref (X.2.2 92), .int v1]) S cn_RX0_95 (Kt_X9_at ok_92 rfl) ⟨rfl, rfl⟩ ⟨Nat.le_of_ble_eq_true rfl, Nat.le_of_ble_eq_true rfl⟩ ⟨Nat.le_refl _, Nat.le_refl _⟩ rfl rfl (Nat.le_of_ble_eq_true rfl) dX0_bestEnd_30 ?_
    refine z_iconst (v := (-1)) S dX0_bestEnd_33 (by decide) ?_
    refine z_icmp_ne (tgt := 41) S he dX0_bestEnd_34 (by decide) (fun he => ?_) (fun he => ?_)
    · refine z_ldc2 (v := (-1000000000000000000)) S kc_RX0_90 dX0_bestEnd_41 ?_
      exact p_X0_bestEnd_J12_44 S  he hc hx
    · refine z_lconst (v := 0) S dX0_bestEnd_37 (by decide) ?_
      refine z_goto (tgt := 44) S dX0_bestEnd_38 (by decide) ?_
      exact p_X0_bestEnd_J12_44 S  he hc hx
set_option maxRecDepth 100000 in
set_option maxHeartbeats 4000000 in
theorem p_X0_bestEnd_J57_85 {X : Cx} {p : Program} {l : Launch} {e : Env} {s : State} {m : MethodId} {args : Array Value} {below : List Frame} {meth : Method} {c : Code} (S : SB X 0 p s m args meth c cX0_bestEnd 6 (some .int) RX0) {M : Mm} {N : Mm} {r : Int32} {v2 : Int32} {x : (Mm × Int32 × Int32) ⊕ Mm}  (he : f_X0_bestEnd_J57_85 M v2 = some x) (hc : ∀ b, x = .inl b → Z X 0 p l e rm_X0_bestEnd s m args below meth c 0 0 (MQ below (QI X 0 r N s.heap.size) args s 0 0 (AA X 0 s.heap.size)) 6 b.1 57 [(0, .ref (X.2.2 90)), (1, .int b.2.1), (2, .int b.2.2)] []) (hx : ∀ b, x = .inr b → Z X 0 p l e rm_X0_bestEnd s m args below meth c 0 0 (MQ below (QI X 0 r N s.heap.size) args s 0 0 (AA X 0 s.heap.size)) 6 b 97 [(0, .ref (X.2.2 90))] []) : Z X 0 p l e rm_X0_bestEnd s m args below meth c 0 0 (MQ below (QI X 0 r N s.heap.size) args s 0 0 (AA X 0 s.heap.size)) 6 M 85 [(0, .ref (X.2.2 90)), (2, .int v2)] [] := by
  unfold f_X0_bestEnd_J57_85 at he
  refine z_iconst (v := 1) S dX0_bestEnd_85 (by decide) ?_
  refine z_goto (tgt := 90) S dX0_bestEnd_86 (by decide) ?_
  refine z_istore_n (lv' := [(0, .ref (X.2.2 90)), (1, .int 1), (2, .int v2)]) S [1, 0, 2] dX0_bestEnd_90 rfl (by decide) rfl ?_
  refine z_iinc (v := (v2 + 1)) (lv' := [(0, .ref (X.2.2 90)), (1, .int 1), (2, .int (v2 + 1))]) S [1, 2, 0] 2 dX0_bestEnd_91 rfl (by rfl) (by decide) rfl ?_
  refine z_goto (tgt := 57) S dX0_bestEnd_94 (by decide) ?_
  refine z_lv (ks := [0, 1, 2]) rfl ?_
  exact hc _ (Option.some.inj he).symm
set_option maxRecDepth 100000 in
set_option maxHeartbeats 4000000 in
theorem p_X0_bestEnd_L57 {X : Cx} {p : Program} {l : Launch} {e : Env} {s : State} {m : MethodId} {args : Array Value} {below : List Frame} {meth : Method} {c : Code} (S : SB X 0 p s m args meth c cX0_bestEnd 6 (some .int) RX0) {M : Mm} {N : Mm} {r : Int32} {v1 : Int32} {v2 : Int32} {x : (Mm × Int32 × Int32) ⊕ Mm}  (he : f_X0_bestEnd_L57 M v1 v2 = some x) (hc : ∀ b, x = .inl b → Z X 0 p l e rm_X0_bestEnd s m args below meth c 0 0 (MQ below (QI X 0 r N s.heap.size) args s 0 0 (AA X 0 s.heap.size)) 6 b.1 57 [(0, .ref (X.2.2 90)), (1, .int b.2.1), (2, .int b.2.2)] []) (hx : ∀ b, x = .inr b → Z X 0 p l e rm_X0_bestEnd s m args below meth c 0 0 (MQ below (QI X 0 r N s.heap.size) args s 0 0 (AA X 0 s.heap.size)) 6 b 97 [(0, .ref (X.2.2 90))] []) : Z X 0 p l e rm_X0_bestEnd s m args below meth c 0 0 (MQ below (QI X 0 r N s.heap.size) args s 0 0 (AA X 0 s.heap.size)) 6 M 57 [(0, .ref (X.2.2 90)), (1, .int v1), (2, .int v2)] [] := by
  unfold f_X0_bestEnd_L57 at he
  refine z_iload_n S dX0_bestEnd_57 rfl 2 rfl ?_
  refine z_aload_n S dX0_bestEnd_58 rfl 0 rfl ?_
  refine z_getI S fo_RX0_41 rfl ok_90 dX0_bestEnd_59 ?_
  refine z_icmp_gt (tgt := 97) S he dX0_bestEnd_62 (by decide) (fun he => ?_) (fun he => ?_)
  · refine z_lv (ks := [0]) rfl ?_
    exact hx _ (Option.some.inj he).symm
  · refine z_iload_n S dX0_bestEnd_65 rfl 1 rfl ?_
    refine z_if_eq (tgt := 97) S he dX0_bestEnd_66 (by decide) (fun he => ?_) (fun he => ?_)
    · refine z_lv (ks := [0]) rfl ?_
      exact hx _ (Option.some.inj he).symm
    · refine z_aload_n S dX0_bestEnd_69 rfl 0 rfl ?_
      obtain ⟨⟨r4, M5⟩, h9, he⟩ := bnd he
      dsimp only at he
      refine z_cVI (As := []) S cv_RX0_98 (K_X0_reachThings  h9) ok_90 (by decide) (q := (RX0, TX0, 8)) rfl rfl ⟨rfl, rfl⟩ ⟨Nat.le_of_ble_eq_true rfl, Nat.le_of_ble_eq_true rfl⟩ ⟨Nat.le_refl _, Nat.le_refl _⟩ rfl rfl (Nat.le_of_ble_eq_true rfl) dX0_bestEnd_70 ?_
      refine z_istore_n (lv' := [(0, .ref (X.2.2 90)), (2, .int v2), (3, .int (bI r4))]) S [1, 3, 0] dX0_bestEnd_73 rfl (by decide) rfl ?_
      refine z_aload_n S dX0_bestEnd_74 rfl 0 rfl ?_
      obtain ⟨⟨r6, M7⟩, h9, he⟩ := bnd he
      dsimp only at he
      refine z_cVI (As := []) S cv_RX0_102 (K_X0_reachVisitors  h9) ok_90 (by decide) (q := (RX0, TX0, 8)) rfl rfl ⟨rfl, rfl⟩ ⟨Nat.le_of_ble_eq_true rfl, Nat.le_of_ble_eq_true rfl⟩ ⟨Nat.le_refl _, Nat.le_refl _⟩ rfl rfl (Nat.le_of_ble_eq_true rfl) dX0_bestEnd_75 ?_
      refine z_ifb_ne (tgt := 85) S he dX0_bestEnd_78 (by decide) (fun he => ?_) (fun he => ?_)
      · refine z_lv (ks := [0, 1]) rfl ?_
        exact p_X0_bestEnd_J57_85 S  he hc hx
      · refine z_iload_n S dX0_bestEnd_81 rfl 2 rfl ?_
        refine z_ifb_eq (tgt := 89) S he dX0_bestEnd_82 (by decide) (fun he => ?_) (fun he => ?_)
        · refine z_iconst (v := 0) S dX0_bestEnd_89 (by decide) ?_
          refine z_istore_n (lv' := [(0, .ref (X.2.2 90)), (1, .int 0), (2, .int v2)]) S [1, 0, 2] dX0_bestEnd_90 rfl (by decide) rfl ?_
          refine z_iinc (v := (v2 + 1)) (lv' := [(0, .ref (X.2.2 90)), (1, .int 0), (2, .int (v2 + 1))]) S [1, 2, 0] 2 dX0_bestEnd_91 rfl (by rfl) (by decide) rfl ?_
          refine z_goto (tgt := 57) S dX0_bestEnd_94 (by decide) ?_
          refine z_lv (ks := [0, 1, 2]) rfl ?_
          exact hc _ (Option.some.inj he).symm
        · refine z_lv (ks := [0, 1]) rfl ?_
          exact p_X0_bestEnd_J57_85 S  he hc hx
set_option maxRecDepth 100000 in
set_option maxHeartbeats 4000000 in
theorem p_X0_bestEnd_L101 {X : Cx} {p : Program} {l : Launch} {e : Env} {s : State} {m : MethodId} {args : Array Value} {below : List Frame} {meth : Method} {c : Code} (S : SB X 0 p s m args meth c cX0_bestEnd 6 (some .int) RX0) {M : Mm} {N : Mm} {r : Int32} {v2 : Int32} {v3 : Int32} {x : (Int32 × Int32) ⊕ Int32}  (he : f_X0_bestEnd_L101 M v2 v3 = some x) (hc : ∀ b, x = .inl b → Z X 0 p l e rm_X0_bestEnd s m args below meth c 0 0 (MQ below (QI X 0 r N s.heap.size) args s 0 0 (AA X 0 s.heap.size)) 6 M 101 [(0, .ref (X.2.2 90)), (2, .int b.1), (3, .int b.2)] []) (hx : ∀ b, x = .inr b → Z X 0 p l e rm_X0_bestEnd s m args below meth c 0 0 (MQ below (QI X 0 r N s.heap.size) args s 0 0 (AA X 0 s.heap.size)) 6 M 164 [(2, .int b)] []) : Z X 0 p l e rm_X0_bestEnd s m args below meth c 0 0 (MQ below (QI X 0 r N s.heap.size) args s 0 0 (AA X 0 s.heap.size)) 6 M 101 [(0, .ref (X.2.2 90)), (2, .int v2), (3, .int v3)] [] := by
  unfold f_X0_bestEnd_L101 at he
  refine z_iload_n S dX0_bestEnd_101 rfl 2 rfl ?_
  refine z_aload_n S dX0_bestEnd_102 rfl 0 rfl ?_
  refine z_getI S fo_RX0_37 rfl ok_90 dX0_bestEnd_103 ?_
  refine z_icmp_ge (tgt := 164) S he dX0_bestEnd_106 (by decide) (fun he => ?_) (fun he => ?_)
  · refine z_lv (ks := [1]) rfl ?_
    exact hx _ (Option.some.inj he).symm
  · refine z_aload_n S dX0_bestEnd_109 rfl 0 rfl ?_
    refine z_getF (j := 95) S fo_RX0_25 5 rfl rfl ok_90 dX0_bestEnd_110 ?_
    refine z_iload_n S dX0_bestEnd_113 rfl 2 rfl ?_
    refine z_cNL (As := [.ref (X.2.2 95), .int v3]) S cn_RX0_86 (Kt_X9_at_ ok_95 rfl) ⟨rfl, rfl⟩ ⟨Nat.le_of_ble_eq_true rfl, Nat.le_of_ble_eq_true rfl⟩ ⟨Nat.le_refl _, Nat.le_refl _⟩ rfl rfl (Nat.le_of_ble_eq_true rfl) dX0_bestEnd_114 ?_
    refine z_lstore (lv' := [(0, .ref (X.2.2 90)), (2, .int v2), (3, .int v3), (4, .long (t_X9_at_ M 95 v3))]) S [1, 2, 3, 0] dX0_bestEnd_117 (by decide) rfl ?_
    refine z_aload_n S dX0_bestEnd_119 rfl 0 rfl ?_
    refine z_getF (j := 93) S fo_RX0_19 3 rfl rfl ok_90 dX0_bestEnd_120 ?_
    refine z_iload_n S dX0_bestEnd_123 rfl 2 rfl ?_
    refine z_cNI (As := [.ref (X.2.2 93), .int v3]) S cn_RX0_95 (Kt_X9_at ok_93 rfl) ⟨rfl, rfl⟩ ⟨Nat.le_of_ble_eq_true rfl, Nat.le_of_ble_eq_true rfl⟩ ⟨Nat.le_refl _, Nat.le_refl _⟩ rfl rfl (Nat.le_of_ble_eq_true rfl) dX0_bestEnd_124 ?_
    refine z_if_le (tgt := 158) S he dX0_bestEnd_127 (by decide) (fun he => ?_) (fun he => ?_)
    · refine z_iinc (v := (v3 + 1)) (lv' := [(0, .ref (X.2.2 90)), (2, .int v2), (3, .int (v3 + 1)), (4, .long (t_X9_at_ M 95 v3))]) S [1, 2, 0, 3] 2 dX0_bestEnd_158 rfl (by rfl) (by decide) rfl ?_
      refine z_goto (tgt := 101) S dX0_bestEnd_161 (by decide) ?_
      refine z_lv (ks := [0, 1, 2]) rfl ?_
      exact hc _ (Option.some.inj he).symm
    · refine z_lload S dX0_bestEnd_130 3 rfl ?_
      refine z_lconst (v := 0) S dX0_bestEnd_132 (by decide) ?_
      refine z_lcmp S dX0_bestEnd_133 ?_
      refine z_if_le (tgt := 158) S he dX0_bestEnd_134 (by decide) (fun he => ?_) (fun he => ?_)
      · refine z_iinc (v := (v3 + 1)) (lv' := [(0, .ref (X.2.2 90)), (2, .int v2), (3, .int (v3 + 1)), (4, .long (t_X9_at_ M 95 v3))]) S [1, 2, 0, 3] 2 dX0_bestEnd_158 rfl (by rfl) (by decide) rfl ?_
        refine z_goto (tgt := 101) S dX0_bestEnd_161 (by decide) ?_
        refine z_lv (ks := [0, 1, 2]) rfl ?_
        exact hc _ (Option.some.inj he).symm
      · refine z_iload_n S dX0_bestEnd_137 rfl 1 rfl ?_
        refine z_iconst (v := (-1)) S dX0_bestEnd_138 (by decide) ?_
        refine z_icmp_eq (tgt := 156) S he dX0_bestEnd_139 (by decide) (fun he => ?_) (fun he => ?_)
        · refine z_iload_n S dX0_bestEnd_156 rfl 2 rfl ?_
          refine z_istore_n (lv' := [(0, .ref (X.2.2 90)), (2, .int v3), (3, .int v3)]) S [1, 0, 2] dX0_bestEnd_157 rfl (by decide) rfl ?_
          refine z_iinc (v := (v3 + 1)) (lv' := [(0, .ref (X.2.2 90)), (2, .int v3), (3, .int (v3 + 1))]) S [1, 2, 0] 2 dX0_bestEnd_158 rfl (by rfl) (by decide) rfl ?_
          refine z_goto (tgt := 101) S dX0_bestEnd_161 (by decide) ?_
          refine z_lv (ks := [0, 1, 2]) rfl ?_
          exact hc _ (Option.some.inj he).symm
        · refine z_lload S dX0_bestEnd_142 3 rfl ?_
          refine z_aload_n S dX0_bestEnd_144 rfl 0 rfl ?_
          refine z_getF (j := 95) S fo_RX0_25 5 rfl rfl ok_90 dX0_bestEnd_145 ?_
          refine z_iload_n S dX0_bestEnd_148 rfl 1 rfl ?_
          refine z_cNL (As := [.ref (X.2.2 95), .int v2]) S cn_RX0_86 (Kt_X9_at_ ok_95 rfl) ⟨rfl, rfl⟩ ⟨Nat.le_of_ble_eq_true rfl, Nat.le_of_ble_eq_true rfl⟩ ⟨Nat.le_refl _, Nat.le_refl _⟩ rfl rfl (Nat.le_of_ble_eq_true rfl) dX0_bestEnd_149 ?_
          refine z_lcmp S dX0_bestEnd_152 ?_
          refine z_if_le (tgt := 158) S he dX0_bestEnd_153 (by decide) (fun he => ?_) (fun he => ?_)
          · refine z_iinc (v := (v3 + 1)) (lv' := [(0, .ref (X.2.2 90)), (2, .int v2), (3, .int (v3 + 1)), (4, .long (t_X9_at_ M 95 v3))]) S [1, 2, 0, 3] 2 dX0_bestEnd_158 rfl (by rfl) (by decide) rfl ?_
            refine z_goto (tgt := 101) S dX0_bestEnd_161 (by decide) ?_
            refine z_lv (ks := [0, 1, 2]) rfl ?_
            exact hc _ (Option.some.inj he).symm
          · refine z_iload_n S dX0_bestEnd_156 rfl 2 rfl ?_
            refine z_istore_n (lv' := [(0, .ref (X.2.2 90)), (2, .int v3), (3, .int v3)]) S [1, 0, 2] dX0_bestEnd_157 rfl (by decide) rfl ?_
            refine z_iinc (v := (v3 + 1)) (lv' := [(0, .ref (X.2.2 90)), (2, .int v3), (3, .int (v3 + 1))]) S [1, 2, 0] 2 dX0_bestEnd_158 rfl (by rfl) (by decide) rfl ?_
            refine z_goto (tgt := 101) S dX0_bestEnd_161 (by decide) ?_
            refine z_lv (ks := [0, 1, 2]) rfl ?_
            exact hc _ (Option.some.inj he).symm
set_option maxRecDepth 100000 in
set_option maxHeartbeats 4000000 in
theorem K_X0_bestEnd {X : Cx} {l : Launch} {M : Mm} {r : Int32} {N : Mm}  (he : f_X0_bestEnd M  = some (r, N)) : KI X 0 l yX0_bestEnd (wz yX0_bestEnd cX0_bestEnd 6 (some .int)) rm_X0_bestEnd [.ref (X.2.2 90)] M r N := by
  intro sz
  refine K_of (Qc := (fun sz => QI X 0 r N sz)) (own := RX0) (lv0 := [(0, .ref (X.2.2 90))]) (by decide +kernel) rfl (Nat.le_of_ble_eq_true rfl) rfl (fun p e s m args below meth c S => ?_) sz
  · unfold f_X0_bestEnd at he
    refine z_aload_n S dX0_bestEnd_0 rfl 0 rfl ?_
    refine z_getF (j := 95) S fo_RX0_25 5 rfl rfl ok_90 dX0_bestEnd_1 ?_
    refine z_ldc2 (v := (-1000000000000000000)) S kc_RX0_90 dX0_bestEnd_4 ?_
    obtain ⟨M1, h9, he⟩ := bnd he
    refine z_cSV (As := [.ref (X.2.2 95), .long (-1000000000000000000)]) S cs_RX0_92 (K_J7_fill_d0a16 ok_95 h9) ⟨rfl, rfl⟩ ⟨Nat.le_of_ble_eq_true rfl, Nat.le_of_ble_eq_true rfl⟩ ⟨Nat.le_refl _, Nat.le_refl _⟩ rfl rfl (Nat.le_of_ble_eq_true rfl) dX0_bestEnd_7 ?_
    refine z_iconst (v := 0) S dX0_bestEnd_10 (by decide) ?_
    refine z_istore_n (lv' := [(0, .ref (X.2.2 90)), (1, .int 0)]) S [1, 0] dX0_bestEnd_11 rfl (by decide) rfl ?_
    obtain ⟨e_3, hl, he⟩ := bnd he
    have hX : Z X 0 p l e rm_X0_bestEnd s m args below meth c 0 0 (MQ below (QI X 0 r N s.heap.size) args s 0 0 (AA X 0 s.heap.size)) 6 e_3 53 [(0, .ref (X.2.2 90))] [] := by
      refine z_iconst (v := 1) S dX0_bestEnd_53 (by decide) ?_
      refine z_istore_n (lv' := [(0, .ref (X.2.2 90)), (1, .int 1)]) S [1, 0] dX0_bestEnd_54 rfl (by decide) rfl ?_
      refine z_iconst (v := 0) S dX0_bestEnd_55 (by decide) ?_
      refine z_istore_n (lv' := [(0, .ref (X.2.2 90)), (1, .int 1), (2, .int 0)]) S [1, 2, 0] dX0_bestEnd_56 rfl (by decide) rfl ?_
      obtain ⟨e_8, hl, he⟩ := bnd he
      have hX : Z X 0 p l e rm_X0_bestEnd s m args below meth c 0 0 (MQ below (QI X 0 r N s.heap.size) args s 0 0 (AA X 0 s.heap.size)) 6 e_8 97 [(0, .ref (X.2.2 90))] [] := by
        refine z_iconst (v := (-1)) S dX0_bestEnd_97 (by decide) ?_
        refine z_istore_n (lv' := [(0, .ref (X.2.2 90)), (2, .int (-1))]) S [1, 0] dX0_bestEnd_98 rfl (by decide) rfl ?_
        refine z_iconst (v := 0) S dX0_bestEnd_99 (by decide) ?_
        refine z_istore_n (lv' := [(0, .ref (X.2.2 90)), (2, .int (-1)), (3, .int 0)]) S [1, 2, 0] dX0_bestEnd_100 rfl (by decide) rfl ?_
        obtain ⟨e_9, hl, he⟩ := bnd he
        have hX : Z X 0 p l e rm_X0_bestEnd s m args below meth c 0 0 (MQ below (QI X 0 r N s.heap.size) args s 0 0 (AA X 0 s.heap.size)) 6 e_8 164 [(2, .int e_9)] [] := by
          refine z_iload_n S dX0_bestEnd_164 rfl 0 rfl ?_
          exact z_iret S (Prod.mk.inj (Option.some.inj he)) dX0_bestEnd_165
        have hZ9 := loopZ (f := (fun a_9 => f_X0_bestEnd_L101 e_8 a_9.1 a_9.2)) (Zh := (fun a_9 => Z X 0 p l e rm_X0_bestEnd s m args below meth c 0 0 (MQ below (QI X 0 r N s.heap.size) args s 0 0 (AA X 0 s.heap.size)) 6 e_8 101 [(0, .ref (X.2.2 90)), (2, .int a_9.1), (3, .int a_9.2)] [])) (fun a_9 x hb hc hr => p_X0_bestEnd_L101 S  hb hc (fun b hxe => by rw [hr b hxe]; exact hX)) FU ((-1), 0) hl
        exact hZ9
      have hZ9 := loopZ (f := (fun a_8 => f_X0_bestEnd_L57 a_8.1 a_8.2.1 a_8.2.2)) (Zh := (fun a_8 => Z X 0 p l e rm_X0_bestEnd s m args below meth c 0 0 (MQ below (QI X 0 r N s.heap.size) args s 0 0 (AA X 0 s.heap.size)) 6 a_8.1 57 [(0, .ref (X.2.2 90)), (1, .int a_8.2.1), (2, .int a_8.2.2)] [])) (fun a_8 x hb hc hr => p_X0_bestEnd_L57 S  hb hc (fun b hxe => by rw [hr b hxe]; exact hX)) FU (e_3, 1, 0) hl
      exact hZ9
    have hZ9 := loopZ (f := (fun a_3 => f_X0_bestEnd_L12 a_3.1 a_3.2)) (Zh := (fun a_3 => Z X 0 p l e rm_X0_bestEnd s m args below meth c 0 0 (MQ below (QI X 0 r N s.heap.size) args s 0 0 (AA X 0 s.heap.size)) 6 a_3.1 12 [(0, .ref (X.2.2 90)), (1, .int a_3.2)] [])) (fun a_3 x hb hc hr => p_X0_bestEnd_L12 S  hb hc (fun b hxe => by rw [hr b hxe]; exact hX)) FU (M1, 0) hl
    exact hZ9
set_option maxRecDepth 100000 in
set_option maxHeartbeats 4000000 in
theorem p_X0_exchange_L22 {X : Cx} {p : Program} {l : Launch} {e : Env} {s : State} {m : MethodId} {args : Array Value} {below : List Frame} {meth : Method} {c : Code} (S : SB X 0 p s m args meth c cX0_exchange 6 none RX0) {M : Mm} {N : Mm} {v2 : Int32} {v3 : Int32} {x : (Mm × Int32 × Int32) ⊕ Mm}  (he : f_X0_exchange_L22 M v2 v3 = some x) (hc : ∀ b, x = .inl b → Z X 0 p l e rm_X0_exchange s m args below meth c 0 0 (MQ below (QV X 0 N s.heap.size) args s 0 0 (AA X 0 s.heap.size)) 6 b.1 22 [(0, .ref (X.2.2 90)), (2, .int b.2.1), (3, .int b.2.2)] []) (hx : ∀ b, x = .inr b → Z X 0 p l e rm_X0_exchange s m args below meth c 0 0 (MQ below (QV X 0 N s.heap.size) args s 0 0 (AA X 0 s.heap.size)) 6 b 73 [] []) : Z X 0 p l e rm_X0_exchange s m args below meth c 0 0 (MQ below (QV X 0 N s.heap.size) args s 0 0 (AA X 0 s.heap.size)) 6 M 22 [(0, .ref (X.2.2 90)), (2, .int v2), (3, .int v3)] [] := by
  unfold f_X0_exchange_L22 at he
  refine z_iload_n S dX0_exchange_22 rfl 2 rfl ?_
  refine z_bipush (v := 10) S dX0_exchange_23 (by decide) ?_
  refine z_icmp_ge (tgt := 73) S he dX0_exchange_25 (by decide) (fun he => ?_) (fun he => ?_)
  · refine z_lv (ks := []) rfl ?_
    exact hx _ (Option.some.inj he).symm
  · refine z_iload_n S dX0_exchange_28 rfl 1 rfl ?_
    refine z_iconst (v := (-1)) S dX0_exchange_29 (by decide) ?_
    refine z_icmp_eq (tgt := 73) S he dX0_exchange_30 (by decide) (fun he => ?_) (fun he => ?_)
    · refine z_lv (ks := []) rfl ?_
      exact hx _ (Option.some.inj he).symm
    · refine z_aload_n S dX0_exchange_33 rfl 0 rfl ?_
      refine z_getF (j := 96) S fo_RX0_28 6 rfl rfl ok_90 dX0_exchange_34 ?_
      refine z_iload_n S dX0_exchange_37 rfl 1 rfl ?_
      refine z_cNI (As := [.ref (X.2.2 96), .int v2]) S cn_RX0_95 (Kt_X9_at ok_96 rfl) ⟨rfl, rfl⟩ ⟨Nat.le_of_ble_eq_true rfl, Nat.le_of_ble_eq_true rfl⟩ ⟨Nat.le_refl _, Nat.le_refl _⟩ rfl rfl (Nat.le_of_ble_eq_true rfl) dX0_exchange_38 ?_
      refine z_istore (lv' := [(0, .ref (X.2.2 90)), (2, .int v2), (3, .int v3), (4, .int (t_X9_at M 96 v2))]) S [1, 2, 3, 0] dX0_exchange_41 (by decide) rfl ?_
      refine z_aload_n S dX0_exchange_43 rfl 0 rfl ?_
      refine z_getF (j := 92) S fo_RX0_15 2 rfl rfl ok_90 dX0_exchange_44 ?_
      refine z_iload S dX0_exchange_47 3 rfl ?_
      refine z_cNI (As := [.ref (X.2.2 92), .int (t_X9_at M 96 v2)]) S cn_RX0_95 (Kt_X9_at ok_92 rfl) ⟨rfl, rfl⟩ ⟨Nat.le_of_ble_eq_true rfl, Nat.le_of_ble_eq_true rfl⟩ ⟨Nat.le_refl _, Nat.le_refl _⟩ rfl rfl (Nat.le_of_ble_eq_true rfl) dX0_exchange_49 ?_
      obtain ⟨x2, ex2, he⟩ := bnd he
      rw [Option.some.inj ex2]
      refine z_istore (lv' := [(0, .ref (X.2.2 90)), (2, .int v2), (3, .int v3), (4, .int (t_X9_at M 96 v2)), (5, .int x2)]) S [1, 2, 3, 4, 0] dX0_exchange_52 (by decide) rfl ?_
      refine z_aload_n S dX0_exchange_54 rfl 0 rfl ?_
      refine z_getF (j := 92) S fo_RX0_15 2 rfl rfl ok_90 dX0_exchange_55 ?_
      refine z_iload S dX0_exchange_58 3 rfl ?_
      refine z_iload_n S dX0_exchange_60 rfl 1 rfl ?_
      obtain ⟨M3, h9, he⟩ := bnd he
      refine z_cNV (As := [.ref (X.2.2 92), .int (t_X9_at M 96 v2), .int v2]) S cn_RX0_52 (Kt_X9_put ok_92 (Option.some.inj h9)) ⟨rfl, rfl⟩ ⟨Nat.le_of_ble_eq_true rfl, Nat.le_of_ble_eq_true rfl⟩ ⟨Nat.le_refl _, Nat.le_refl _⟩ rfl rfl (Nat.le_of_ble_eq_true rfl) dX0_exchange_61 ?_
      refine z_iload S dX0_exchange_64 4 rfl ?_
      refine z_istore_n (lv' := [(0, .ref (X.2.2 90)), (2, .int x2), (3, .int v3)]) S [1, 0, 2] dX0_exchange_66 rfl (by decide) rfl ?_
      refine z_iinc (v := (v3 + 1)) (lv' := [(0, .ref (X.2.2 90)), (2, .int x2), (3, .int (v3 + 1))]) S [1, 2, 0] 2 dX0_exchange_67 rfl (by rfl) (by decide) rfl ?_
      refine z_goto (tgt := 22) S dX0_exchange_70 (by decide) ?_
      refine z_lv (ks := [0, 1, 2]) rfl ?_
      exact hc _ (Option.some.inj he).symm
set_option maxRecDepth 100000 in
set_option maxHeartbeats 4000000 in
theorem K_X0_exchange {X : Cx} {l : Launch} {M : Mm} {a1 : Int32} {N : Mm}  (he : f_X0_exchange M a1 = some N) : KV X 0 l yX0_exchange (wz yX0_exchange cX0_exchange 6 none) rm_X0_exchange [.ref (X.2.2 90), .int a1] M N := by
  intro sz
  refine K_of (Qc := (fun sz => QV X 0 N sz)) (own := RX0) (lv0 := [(0, .ref (X.2.2 90)), (1, .int a1)]) (by decide +kernel) rfl (Nat.le_of_ble_eq_true rfl) rfl (fun p e s m args below meth c S => ?_) sz
  · unfold f_X0_exchange at he
    refine z_aload_n S dX0_exchange_0 rfl 0 rfl ?_
    refine z_getF (j := 93) S fo_RX0_19 3 rfl rfl ok_90 dX0_exchange_1 ?_
    refine z_iload_n S dX0_exchange_4 rfl 1 rfl ?_
    refine z_aload_n S dX0_exchange_5 rfl 0 rfl ?_
    refine z_getF (j := 93) S fo_RX0_19 3 rfl rfl ok_90 dX0_exchange_6 ?_
    refine z_iload_n S dX0_exchange_9 rfl 1 rfl ?_
    refine z_cNI (As := [.ref (X.2.2 93), .int a1]) S cn_RX0_95 (Kt_X9_at ok_93 rfl) ⟨rfl, rfl⟩ ⟨Nat.le_of_ble_eq_true rfl, Nat.le_of_ble_eq_true rfl⟩ ⟨Nat.le_refl _, Nat.le_refl _⟩ rfl rfl (Nat.le_of_ble_eq_true rfl) dX0_exchange_10 ?_
    refine z_iconst (v := 1) S dX0_exchange_13 (by decide) ?_
    refine z_isub S dX0_exchange_14 ?_
    obtain ⟨M1, h9, he⟩ := bnd he
    refine z_cNV (As := [.ref (X.2.2 93), .int a1, .int ((t_X9_at M 93 a1) - 1)]) S cn_RX0_52 (Kt_X9_put ok_93 (Option.some.inj h9)) ⟨rfl, rfl⟩ ⟨Nat.le_of_ble_eq_true rfl, Nat.le_of_ble_eq_true rfl⟩ ⟨Nat.le_refl _, Nat.le_refl _⟩ rfl rfl (Nat.le_of_ble_eq_true rfl) dX0_exchange_15 ?_
    refine z_iload_n S dX0_exchange_18 rfl 1 rfl ?_
    refine z_istore_n (lv' := [(0, .ref (X.2.2 90)), (2, .int a1)]) S [1, 0] dX0_exchange_19 rfl (by decide) rfl ?_
    refine z_iconst (v := 0) S dX0_exchange_20 (by decide) ?_
    refine z_istore_n (lv' := [(0, .ref (X.2.2 90)), (2, .int a1), (3, .int 0)]) S [1, 2, 0] dX0_exchange_21 rfl (by decide) rfl ?_
    obtain ⟨e_4, hl, he⟩ := bnd he
    have hX : Z X 0 p l e rm_X0_exchange s m args below meth c 0 0 (MQ below (QV X 0 N s.heap.size) args s 0 0 (AA X 0 s.heap.size)) 6 e_4 73 [] [] := by
      exact z_vret S (Option.some.inj he) dX0_exchange_73
    have hZ9 := loopZ (f := (fun a_4 => f_X0_exchange_L22 a_4.1 a_4.2.1 a_4.2.2)) (Zh := (fun a_4 => Z X 0 p l e rm_X0_exchange s m args below meth c 0 0 (MQ below (QV X 0 N s.heap.size) args s 0 0 (AA X 0 s.heap.size)) 6 a_4.1 22 [(0, .ref (X.2.2 90)), (2, .int a_4.2.1), (3, .int a_4.2.2)] [])) (fun a_4 x hb hc hr => p_X0_exchange_L22 S  hb hc (fun b hxe => by rw [hr b hxe]; exact hX)) FU (M1, a1, 0) hl
    exact hZ9
set_option maxRecDepth 100000 in
set_option maxHeartbeats 4000000 in
theorem K_X4_ofThing {X : Cx} {l : Launch} {M : Mm} {a0 : Nat} {a1 : Int32} {a2 : Int32} {r : Int32} (h_a0 : OK 0 a0 4) (he : f_X4_ofThing M a0 a1 a2 = r) : KI X 0 l yX4_ofThing (wz yX4_ofThing cX4_ofThing 3 (some .int)) rm_X4_ofThing [.ref (X.2.2 a0), .int a1, .int a2] M r M := by
  intro sz
  refine K_of (Qc := (fun sz => QI X 0 r M sz)) (own := RX4) (lv0 := [(0, .ref (X.2.2 a0)), (1, .int a1), (2, .int a2)]) (by decide +kernel) rfl (Nat.le_of_ble_eq_true rfl) rfl (fun p e s m args below meth c S => ?_) sz
  · unfold f_X4_ofThing at he
    refine z_aload_n S dX4_ofThing_0 rfl 0 rfl ?_
    refine z_getF (j := (a0 + 1)) S fo_RX4_9 1 rfl rfl h_a0 dX4_ofThing_1 ?_
    refine z_iload_n S dX4_ofThing_4 rfl 1 rfl ?_
    refine z_iconst (v := 5) S dX4_ofThing_5 (by decide) ?_
    refine z_imul S dX4_ofThing_6 ?_
    refine z_iload_n S dX4_ofThing_7 rfl 2 rfl ?_
    refine z_iadd S dX4_ofThing_8 ?_
    refine z_cNI (As := [.ref (X.2.2 (a0 + 1)), .int ((a1 * 5) + a2)]) S cn_RX4_49 (Kt_X9_at (okf4_1 h_a0).1 rfl) ⟨rfl, rfl⟩ ⟨Nat.le_of_ble_eq_true rfl, Nat.le_of_ble_eq_true rfl⟩ ⟨Nat.le_refl _, Nat.le_refl _⟩ rfl rfl (Nat.le_of_ble_eq_true rfl) dX4_ofThing_9 ?_
    exact z_iret S (⟨he, rfl⟩) dX4_ofThing_12
set_option maxRecDepth 100000 in
set_option maxHeartbeats 4000000 in
theorem K_X6_likes {X : Cx} {l : Launch} {M : Mm} {a1 : Int32} {a2 : Int32} {r : Int32}  (he : f_X6_likes M a1 a2 = r) : KI X 0 l yX6_likes (wz yX6_likes cX6_likes 3 (some .int)) rm_X6_likes [.ref (X.2.2 82), .int a1, .int a2] M r M := by
  intro sz
  refine K_of (Qc := (fun sz => QI X 0 r M sz)) (own := RX6) (lv0 := [(0, .ref (X.2.2 82)), (1, .int a1), (2, .int a2)]) (by decide +kernel) rfl (Nat.le_of_ble_eq_true rfl) rfl (fun p e s m args below meth c S => ?_) sz
  · unfold f_X6_likes at he
    refine z_aload_n S dX6_likes_0 rfl 0 rfl ?_
    refine z_getF (j := 83) S fo_RX6_9 1 rfl rfl ok_82 dX6_likes_1 ?_
    refine z_iload_n S dX6_likes_4 rfl 1 rfl ?_
    refine z_bipush (v := 10) S dX6_likes_5 (by decide) ?_
    refine z_imul S dX6_likes_7 ?_
    refine z_iload_n S dX6_likes_8 rfl 2 rfl ?_
    refine z_iadd S dX6_likes_9 ?_
    refine z_cNI (As := [.ref (X.2.2 83), .int ((a1 * 10) + a2)]) S cn_RX6_55 (Kt_X9_at ok_83 rfl) ⟨rfl, rfl⟩ ⟨Nat.le_of_ble_eq_true rfl, Nat.le_of_ble_eq_true rfl⟩ ⟨Nat.le_refl _, Nat.le_refl _⟩ rfl rfl (Nat.le_of_ble_eq_true rfl) dX6_likes_10 ?_
    exact z_iret S (⟨he, rfl⟩) dX6_likes_13
set_option maxRecDepth 100000 in
set_option maxHeartbeats 4000000 in
theorem K_X6_calls {X : Cx} {l : Launch} {M : Mm} {a1 : Int32} {a2 : Int32} {r : Bool}  (he : f_X6_calls M a1 a2 = r) : KI X 0 l yX6_calls (wz yX6_calls cX6_calls 3 (some .boolean)) rm_X6_calls [.ref (X.2.2 82), .int a1, .int a2] M (bI r) M := by
  intro sz
  refine K_of (Qc := (fun sz => QI X 0 (bI r) M sz)) (own := RX6) (lv0 := [(0, .ref (X.2.2 82)), (1, .int a1), (2, .int a2)]) (by decide +kernel) rfl (Nat.le_of_ble_eq_true rfl) rfl (fun p e s m args below meth c S => ?_) sz
  · unfold f_X6_calls at he
    refine z_aload_n S dX6_calls_0 rfl 0 rfl ?_
    refine z_getF (j := 84) S fo_RX6_15 2 rfl rfl ok_82 dX6_calls_1 ?_
    refine z_iload_n S dX6_calls_4 rfl 1 rfl ?_
    refine z_cNI (As := [.ref (X.2.2 84), .int a1]) S cn_RX6_55 (Kt_X9_at ok_84 rfl) ⟨rfl, rfl⟩ ⟨Nat.le_of_ble_eq_true rfl, Nat.le_of_ble_eq_true rfl⟩ ⟨Nat.le_refl _, Nat.le_refl _⟩ rfl rfl (Nat.le_of_ble_eq_true rfl) dX6_calls_5 ?_
    refine z_iload_n S dX6_calls_8 rfl 2 rfl ?_
    refine z_ishr S dX6_calls_9 ?_
    refine z_iconst (v := 1) S dX6_calls_10 (by decide) ?_
    refine z_iand S dX6_calls_11 ?_
    refine z_iconst (v := 1) S dX6_calls_12 (by decide) ?_
    refine z_icmp_ne (tgt := 20) S he dX6_calls_13 (by decide) (fun he => ?_) (fun he => ?_)
    · refine z_iconst (v := 0) S dX6_calls_20 (by decide) ?_
      exact z_zret0 S (⟨he, rfl⟩) dX6_calls_21
    · refine z_iconst (v := 1) S dX6_calls_16 (by decide) ?_
      refine z_goto (tgt := 21) S dX6_calls_17 (by decide) ?_
      exact z_zret1 S (⟨he, rfl⟩) dX6_calls_21
set_option maxRecDepth 100000 in
set_option maxHeartbeats 4000000 in
theorem p_X0_setWorths_J19_84 {X : Cx} {p : Program} {l : Launch} {e : Env} {s : State} {m : MethodId} {args : Array Value} {below : List Frame} {meth : Method} {c : Code} (S : SB X 0 p s m args meth c cX0_setWorths 9 none RX0) {M : Mm} {N : Mm} {v2 : Int64} {v4 : Int32} {v5 : Int32} {t0 : Int64} {t1 : Int32} {x : (Mm × Int32) ⊕ Mm}  (he : f_X0_setWorths_J19_84 M v2 v4 v5 t0 t1 = some x) (hc : ∀ b, x = .inl b → Z X 0 p l e rm_X0_setWorths s m args below meth c 0 0 (MQ below (QV X 0 N s.heap.size) args s 0 0 (AA X 0 s.heap.size)) 9 b.1 19 [(0, .ref (X.2.2 90)), (1, .ref (X.2.2 82)), (2, .long v2), (4, .int v4), (5, .int b.2)] []) (hx : ∀ b, x = .inr b → Z X 0 p l e rm_X0_setWorths s m args below meth c 0 0 (MQ below (QV X 0 N s.heap.size) args s 0 0 (AA X 0 s.heap.size)) 9 b 93 [(0, .ref (X.2.2 90)), (1, .ref (X.2.2 82)), (2, .long v2), (4, .int v4)] []) : Z X 0 p l e rm_X0_setWorths s m args below meth c 0 0 (MQ below (QV X 0 N s.heap.size) args s 0 0 (AA X 0 s.heap.size)) 9 M 84 [(0, .ref (X.2.2 90)), (1, .ref (X.2.2 82)), (2, .long v2), (4, .int v4), (5, .int v5)] [.long t0, .int t1, .ref (X.2.2 91)] := by
  unfold f_X0_setWorths_J19_84 at he
  obtain ⟨M2, h9, he⟩ := bnd he
  refine z_cNV (As := [.ref (X.2.2 91), .int t1, .long t0]) S cn_RX0_81 (Kt_X9_put_ ok_91 (Option.some.inj h9)) ⟨rfl, rfl⟩ ⟨Nat.le_of_ble_eq_true rfl, Nat.le_of_ble_eq_true rfl⟩ ⟨Nat.le_refl _, Nat.le_refl _⟩ rfl rfl (Nat.le_of_ble_eq_true rfl) dX0_setWorths_84 ?_
  refine z_iinc (v := (v5 + 1)) (lv' := [(0, .ref (X.2.2 90)), (1, .ref (X.2.2 82)), (2, .long v2), (4, .int v4), (5, .int (v5 + 1))]) S [1, 2, 3, 4, 0] 4 dX0_setWorths_87 rfl (by rfl) (by decide) rfl ?_
  refine z_goto (tgt := 19) S dX0_setWorths_90 (by decide) ?_
  refine z_lv (ks := [0, 1, 2, 3, 4]) rfl ?_
  exact hc _ (Option.some.inj he).symm
set_option maxRecDepth 100000 in
set_option maxHeartbeats 4000000 in
theorem p_X0_setWorths_L19 {X : Cx} {p : Program} {l : Launch} {e : Env} {s : State} {m : MethodId} {args : Array Value} {below : List Frame} {meth : Method} {c : Code} (S : SB X 0 p s m args meth c cX0_setWorths 9 none RX0) {M : Mm} {N : Mm} {v2 : Int64} {v4 : Int32} {v5 : Int32} {x : (Mm × Int32) ⊕ Mm}  (he : f_X0_setWorths_L19 M v2 v4 v5 = some x) (hc : ∀ b, x = .inl b → Z X 0 p l e rm_X0_setWorths s m args below meth c 0 0 (MQ below (QV X 0 N s.heap.size) args s 0 0 (AA X 0 s.heap.size)) 9 b.1 19 [(0, .ref (X.2.2 90)), (1, .ref (X.2.2 82)), (2, .long v2), (4, .int v4), (5, .int b.2)] []) (hx : ∀ b, x = .inr b → Z X 0 p l e rm_X0_setWorths s m args below meth c 0 0 (MQ below (QV X 0 N s.heap.size) args s 0 0 (AA X 0 s.heap.size)) 9 b 93 [(0, .ref (X.2.2 90)), (1, .ref (X.2.2 82)), (2, .long v2), (4, .int v4)] []) : Z X 0 p l e rm_X0_setWorths s m args below meth c 0 0 (MQ below (QV X 0 N s.heap.size) args s 0 0 (AA X 0 s.heap.size)) 9 M 19 [(0, .ref (X.2.2 90)), (1, .ref (X.2.2 82)), (2, .long v2), (4, .int v4), (5, .int v5)] [] := by
  unfold f_X0_setWorths_L19 at he
  refine z_iload S dX0_setWorths_19 4 rfl ?_
  refine z_aload_n S dX0_setWorths_21 rfl 0 rfl ?_
  refine z_getI S fo_RX0_37 rfl ok_90 dX0_setWorths_22 ?_
  refine z_icmp_ge (tgt := 93) S he dX0_setWorths_25 (by decide) (fun he => ?_) (fun he => ?_)
  · refine z_lv (ks := [0, 1, 2, 3]) rfl ?_
    exact hx _ (Option.some.inj he).symm
  · refine z_aload_n S dX0_setWorths_28 rfl 1 rfl ?_
    refine z_iload S dX0_setWorths_29 4 rfl ?_
    refine z_iload S dX0_setWorths_31 3 rfl ?_
    refine z_cVI (As := [.int v5, .int v4]) S cv_RX0_70 (K_X6_likes  rfl) ok_82 (by decide) (q := (RX6, TX6, 4)) rfl rfl ⟨rfl, rfl⟩ ⟨Nat.le_of_ble_eq_true rfl, Nat.le_of_ble_eq_true rfl⟩ ⟨Nat.le_refl _, Nat.le_refl _⟩ rfl rfl (Nat.le_of_ble_eq_true rfl) dX0_setWorths_33 ?_
    refine z_i2l S dX0_setWorths_36 ?_
    refine z_ldc2 (v := 10000000000) S kc_RX0_75 dX0_setWorths_37 ?_
    refine z_lmul S dX0_setWorths_40 ?_
    refine z_iload S dX0_setWorths_41 4 rfl ?_
    refine z_iconst (v := 1) S dX0_setWorths_43 (by decide) ?_
    refine z_iadd S dX0_setWorths_44 ?_
    refine z_i2l S dX0_setWorths_45 ?_
    refine z_lload_n S dX0_setWorths_46 rfl 2 rfl ?_
    refine z_lmul S dX0_setWorths_47 ?_
    refine z_lsub S dX0_setWorths_48 ?_
    obtain ⟨x1, ex1, he⟩ := bnd he
    rw [Option.some.inj ex1]
    refine z_lstore (lv' := [(0, .ref (X.2.2 90)), (1, .ref (X.2.2 82)), (2, .long v2), (4, .int v4), (5, .int v5), (6, .long x1)]) S [1, 2, 3, 4, 5, 0] dX0_setWorths_49 (by decide) rfl ?_
    refine z_aload_n S dX0_setWorths_51 rfl 1 rfl ?_
    refine z_iload S dX0_setWorths_52 4 rfl ?_
    refine z_iload S dX0_setWorths_54 3 rfl ?_
    refine z_cVI (As := [.int v5, .int v4]) S cv_RX0_77 (K_X6_calls  rfl) ok_82 (by decide) (q := (RX6, TX6, 4)) rfl rfl ⟨rfl, rfl⟩ ⟨Nat.le_of_ble_eq_true rfl, Nat.le_of_ble_eq_true rfl⟩ ⟨Nat.le_refl _, Nat.le_refl _⟩ rfl rfl (Nat.le_of_ble_eq_true rfl) dX0_setWorths_56 ?_
    refine z_istore (lv' := [(0, .ref (X.2.2 90)), (1, .ref (X.2.2 82)), (2, .long v2), (4, .int v4), (5, .int v5), (6, .long x1), (8, .int (bI (f_X6_calls M v5 v4)))]) S [1, 2, 3, 4, 5, 6, 0] dX0_setWorths_59 (by decide) rfl ?_
    refine z_aload_n S dX0_setWorths_61 rfl 0 rfl ?_
    refine z_getF (j := 91) S fo_RX0_9 1 rfl rfl ok_90 dX0_setWorths_62 ?_
    refine z_iload S dX0_setWorths_65 4 rfl ?_
    refine z_bipush (v := 10) S dX0_setWorths_67 (by decide) ?_
    refine z_imul S dX0_setWorths_69 ?_
    refine z_iload S dX0_setWorths_70 3 rfl ?_
    refine z_iadd S dX0_setWorths_72 ?_
    refine z_iload S dX0_setWorths_73 6 rfl ?_
    refine z_ifb_eq (tgt := 83) S he dX0_setWorths_75 (by decide) (fun he => ?_) (fun he => ?_)
    · refine z_lconst (v := 0) S dX0_setWorths_83 (by decide) ?_
      refine z_lv (ks := [0, 1, 2, 3, 4]) rfl ?_
      exact p_X0_setWorths_J19_84 S  he hc hx
    · refine z_lload S dX0_setWorths_78 5 rfl ?_
      refine z_goto (tgt := 84) S dX0_setWorths_80 (by decide) ?_
      refine z_lv (ks := [0, 1, 2, 3, 4]) rfl ?_
      exact p_X0_setWorths_J19_84 S  he hc hx
set_option maxRecDepth 100000 in
set_option maxHeartbeats 4000000 in
theorem p_X0_setWorths_L7 {X : Cx} {p : Program} {l : Launch} {e : Env} {s : State} {m : MethodId} {args : Array Value} {below : List Frame} {meth : Method} {c : Code} (S : SB X 0 p s m args meth c cX0_setWorths 9 none RX0) {M : Mm} {N : Mm} {v2 : Int64} {v4 : Int32} {x : (Mm × Int64 × Int32) ⊕ Mm}  (he : f_X0_setWorths_L7 M v2 v4 = some x) (hc : ∀ b, x = .inl b → Z X 0 p l e rm_X0_setWorths s m args below meth c 0 0 (MQ below (QV X 0 N s.heap.size) args s 0 0 (AA X 0 s.heap.size)) 9 b.1 7 [(0, .ref (X.2.2 90)), (1, .ref (X.2.2 82)), (2, .long b.2.1), (4, .int b.2.2)] []) (hx : ∀ b, x = .inr b → Z X 0 p l e rm_X0_setWorths s m args below meth c 0 0 (MQ below (QV X 0 N s.heap.size) args s 0 0 (AA X 0 s.heap.size)) 9 b 105 [] []) : Z X 0 p l e rm_X0_setWorths s m args below meth c 0 0 (MQ below (QV X 0 N s.heap.size) args s 0 0 (AA X 0 s.heap.size)) 9 M 7 [(0, .ref (X.2.2 90)), (1, .ref (X.2.2 82)), (2, .long v2), (4, .int v4)] [] := by
  unfold f_X0_setWorths_L7 at he
  refine z_iload S dX0_setWorths_7 3 rfl ?_
  refine z_aload_n S dX0_setWorths_9 rfl 0 rfl ?_
  refine z_getI S fo_RX0_41 rfl ok_90 dX0_setWorths_10 ?_
  refine z_icmp_ge (tgt := 105) S he dX0_setWorths_13 (by decide) (fun he => ?_) (fun he => ?_)
  · refine z_lv (ks := []) rfl ?_
    exact hx _ (Option.some.inj he).symm
  · refine z_iconst (v := 0) S dX0_setWorths_16 (by decide) ?_
    refine z_istore (lv' := [(0, .ref (X.2.2 90)), (1, .ref (X.2.2 82)), (2, .long v2), (4, .int v4), (5, .int 0)]) S [1, 2, 3, 4, 0] dX0_setWorths_17 (by decide) rfl ?_
    obtain ⟨e_3, hl, he⟩ := bnd he
    have hX : Z X 0 p l e rm_X0_setWorths s m args below meth c 0 0 (MQ below (QV X 0 N s.heap.size) args s 0 0 (AA X 0 s.heap.size)) 9 e_3 93 [(0, .ref (X.2.2 90)), (1, .ref (X.2.2 82)), (2, .long v2), (4, .int v4)] [] := by
      refine z_lload_n S dX0_setWorths_93 rfl 2 rfl ?_
      refine z_ldc2 (v := 10) S kc_RX0_84 dX0_setWorths_94 ?_
      refine z_ldiv S (by decide) dX0_setWorths_97 ?_
      refine z_lstore_n (lv' := [(0, .ref (X.2.2 90)), (1, .ref (X.2.2 82)), (2, .long (v2 / 10)), (4, .int v4)]) S [1, 2, 0, 3] dX0_setWorths_98 rfl (by decide) rfl ?_
      refine z_iinc (v := (v4 + 1)) (lv' := [(0, .ref (X.2.2 90)), (1, .ref (X.2.2 82)), (2, .long (v2 / 10)), (4, .int (v4 + 1))]) S [1, 2, 3, 0] 3 dX0_setWorths_99 rfl (by rfl) (by decide) rfl ?_
      refine z_goto (tgt := 7) S dX0_setWorths_102 (by decide) ?_
      refine z_lv (ks := [0, 1, 2, 3]) rfl ?_
      exact hc _ (Option.some.inj he).symm
    have hZ9 := loopZ (f := (fun a_3 => f_X0_setWorths_L19 a_3.1 v2 v4 a_3.2)) (Zh := (fun a_3 => Z X 0 p l e rm_X0_setWorths s m args below meth c 0 0 (MQ below (QV X 0 N s.heap.size) args s 0 0 (AA X 0 s.heap.size)) 9 a_3.1 19 [(0, .ref (X.2.2 90)), (1, .ref (X.2.2 82)), (2, .long v2), (4, .int v4), (5, .int a_3.2)] [])) (fun a_3 x hb hc hr => p_X0_setWorths_L19 S  hb hc (fun b hxe => by rw [hr b hxe]; exact hX)) FU (M, 0) hl
    exact hZ9
set_option maxRecDepth 100000 in
set_option maxHeartbeats 4000000 in
theorem K_X0_setWorths {X : Cx} {l : Launch} {M : Mm} {N : Mm}  (he : f_X0_setWorths M  = some N) : KV X 0 l yX0_setWorths (wz yX0_setWorths cX0_setWorths 9 none) rm_X0_setWorths [.ref (X.2.2 90), .ref (X.2.2 82)] M N := by
  intro sz
  refine K_of (Qc := (fun sz => QV X 0 N sz)) (own := RX0) (lv0 := [(0, .ref (X.2.2 90)), (1, .ref (X.2.2 82))]) (by decide +kernel) rfl (Nat.le_of_ble_eq_true rfl) rfl (fun p e s m args below meth c S => ?_) sz
  · unfold f_X0_setWorths at he
    refine z_ldc2 (v := 1000000000) S kc_RX0_68 dX0_setWorths_0 ?_
    refine z_lstore_n (lv' := [(0, .ref (X.2.2 90)), (1, .ref (X.2.2 82)), (2, .long 1000000000)]) S [1, 2, 0] dX0_setWorths_3 rfl (by decide) rfl ?_
    refine z_iconst (v := 0) S dX0_setWorths_4 (by decide) ?_
    refine z_istore (lv' := [(0, .ref (X.2.2 90)), (1, .ref (X.2.2 82)), (2, .long 1000000000), (4, .int 0)]) S [1, 2, 3, 0] dX0_setWorths_5 (by decide) rfl ?_
    obtain ⟨e_4, hl, he⟩ := bnd he
    have hX : Z X 0 p l e rm_X0_setWorths s m args below meth c 0 0 (MQ below (QV X 0 N s.heap.size) args s 0 0 (AA X 0 s.heap.size)) 9 e_4 105 [] [] := by
      exact z_vret S (Option.some.inj he) dX0_setWorths_105
    have hZ9 := loopZ (f := (fun a_4 => f_X0_setWorths_L7 a_4.1 a_4.2.1 a_4.2.2)) (Zh := (fun a_4 => Z X 0 p l e rm_X0_setWorths s m args below meth c 0 0 (MQ below (QV X 0 N s.heap.size) args s 0 0 (AA X 0 s.heap.size)) 9 a_4.1 7 [(0, .ref (X.2.2 90)), (1, .ref (X.2.2 82)), (2, .long a_4.2.1), (4, .int a_4.2.2)] [])) (fun a_4 x hb hc hr => p_X0_setWorths_L7 S  hb hc (fun b hxe => by rw [hr b hxe]; exact hX)) FU (M, 1000000000, 0) hl
    exact hZ9
set_option maxRecDepth 100000 in
set_option maxHeartbeats 4000000 in
theorem p_X0_find_L26 {X : Cx} {p : Program} {l : Launch} {e : Env} {s : State} {m : MethodId} {args : Array Value} {below : List Frame} {meth : Method} {c : Code} (S : SB X 0 p s m args meth c cX0_find 5 none RX0) {M : Mm} {N : Mm} {v1 : Nat} {v3 : Int32} {x : (Mm × Int32) ⊕ Mm} (h_v1 : OK 0 v1 4) (he : f_X0_find_L26 M v1 v3 = some x) (hc : ∀ b, x = .inl b → Z X 0 p l e rm_X0_find s m args below meth c 0 0 (MQ below (QV X 0 N s.heap.size) args s 0 0 (AA X 0 s.heap.size)) 5 b.1 26 [(0, .ref (X.2.2 90)), (1, .ref (X.2.2 v1)), (2, .ref (X.2.2 82)), (3, .int b.2)] []) (hx : ∀ b, x = .inr b → Z X 0 p l e rm_X0_find s m args below meth c 0 0 (MQ below (QV X 0 N s.heap.size) args s 0 0 (AA X 0 s.heap.size)) 5 b 54 [(0, .ref (X.2.2 90)), (2, .ref (X.2.2 82))] []) : Z X 0 p l e rm_X0_find s m args below meth c 0 0 (MQ below (QV X 0 N s.heap.size) args s 0 0 (AA X 0 s.heap.size)) 5 M 26 [(0, .ref (X.2.2 90)), (1, .ref (X.2.2 v1)), (2, .ref (X.2.2 82)), (3, .int v3)] [] := by
  unfold f_X0_find_L26 at he
  refine z_iload_n S dX0_find_26 rfl 3 rfl ?_
  refine z_aload_n S dX0_find_27 rfl 0 rfl ?_
  refine z_getI S fo_RX0_37 rfl ok_90 dX0_find_28 ?_
  refine z_icmp_ge (tgt := 54) S he dX0_find_31 (by decide) (fun he => ?_) (fun he => ?_)
  · refine z_lv (ks := [0, 2]) rfl ?_
    exact hx _ (Option.some.inj he).symm
  · refine z_aload_n S dX0_find_34 rfl 0 rfl ?_
    refine z_getF (j := 93) S fo_RX0_19 3 rfl rfl ok_90 dX0_find_35 ?_
    refine z_iload_n S dX0_find_38 rfl 3 rfl ?_
    refine z_aload_n S dX0_find_39 rfl 1 rfl ?_
    refine z_iload_n S dX0_find_40 rfl 3 rfl ?_
    refine z_iconst (v := 2) S dX0_find_41 (by decide) ?_
    refine z_cVI (As := [.int v3, .int 2]) S cv_RX0_48 (K_X4_ofThing h_v1 rfl) h_v1 (by decide) (q := (RX4, TX4, 10)) rfl rfl ⟨rfl, rfl⟩ ⟨Nat.le_of_ble_eq_true rfl, Nat.le_of_ble_eq_true rfl⟩ ⟨Nat.le_refl _, Nat.le_refl _⟩ rfl rfl (Nat.le_of_ble_eq_true rfl) dX0_find_42 ?_
    obtain ⟨M4, h9, he⟩ := bnd he
    refine z_cNV (As := [.ref (X.2.2 93), .int v3, .int (f_X4_ofThing M v1 v3 2)]) S cn_RX0_52 (Kt_X9_put ok_93 (Option.some.inj h9)) ⟨rfl, rfl⟩ ⟨Nat.le_of_ble_eq_true rfl, Nat.le_of_ble_eq_true rfl⟩ ⟨Nat.le_refl _, Nat.le_refl _⟩ rfl rfl (Nat.le_of_ble_eq_true rfl) dX0_find_45 ?_
    refine z_iinc (v := (v3 + 1)) (lv' := [(0, .ref (X.2.2 90)), (1, .ref (X.2.2 v1)), (2, .ref (X.2.2 82)), (3, .int (v3 + 1))]) S [1, 2, 3, 0] 3 dX0_find_48 rfl (by rfl) (by decide) rfl ?_
    refine z_goto (tgt := 26) S dX0_find_51 (by decide) ?_
    refine z_lv (ks := [0, 1, 2, 3]) rfl ?_
    exact hc _ (Option.some.inj he).symm
set_option maxRecDepth 100000 in
set_option maxHeartbeats 4000000 in
theorem p_X0_find_L61 {X : Cx} {p : Program} {l : Launch} {e : Env} {s : State} {m : MethodId} {args : Array Value} {below : List Frame} {meth : Method} {c : Code} (S : SB X 0 p s m args meth c cX0_find 5 none RX0) {M : Mm} {N : Mm} {v3 : Int32} {x : (Mm × Int32) ⊕ ((Mm) ⊕ Mm)}  (he : f_X0_find_L61 M v3 = some x) (hc : ∀ b, x = .inl b → Z X 0 p l e rm_X0_find s m args below meth c 0 0 (MQ below (QV X 0 N s.heap.size) args s 0 0 (AA X 0 s.heap.size)) 5 b.1 61 [(0, .ref (X.2.2 90)), (3, .int b.2)] []) (hx : ∀ b, x = .inr (.inr b) → Z X 0 p l e rm_X0_find s m args below meth c 0 0 (MQ below (QV X 0 N s.heap.size) args s 0 0 (AA X 0 s.heap.size)) 5 b 94 [] []) (hr : ∀ v, x = .inr (.inl v) → v = N) : Z X 0 p l e rm_X0_find s m args below meth c 0 0 (MQ below (QV X 0 N s.heap.size) args s 0 0 (AA X 0 s.heap.size)) 5 M 61 [(0, .ref (X.2.2 90)), (3, .int v3)] [] := by
  unfold f_X0_find_L61 at he
  refine z_iload_n S dX0_find_61 rfl 1 rfl ?_
  refine z_aload_n S dX0_find_62 rfl 0 rfl ?_
  refine z_getI S fo_RX0_41 rfl ok_90 dX0_find_63 ?_
  refine z_icmp_ge (tgt := 94) S he dX0_find_66 (by decide) (fun he => ?_) (fun he => ?_)
  · refine z_lv (ks := []) rfl ?_
    exact hx _ (Option.some.inj he).symm
  · refine z_aload_n S dX0_find_69 rfl 0 rfl ?_
    obtain ⟨⟨r7, M8⟩, h9, he⟩ := bnd he
    dsimp only at he
    refine z_cVI (As := []) S cv_RX0_60 (K_X0_bestEnd  h9) ok_90 (by decide) (q := (RX0, TX0, 8)) rfl rfl ⟨rfl, rfl⟩ ⟨Nat.le_of_ble_eq_true rfl, Nat.le_of_ble_eq_true rfl⟩ ⟨Nat.le_refl _, Nat.le_refl _⟩ rfl rfl (Nat.le_of_ble_eq_true rfl) dX0_find_70 ?_
    refine z_istore (lv' := [(0, .ref (X.2.2 90)), (3, .int v3), (4, .int r7)]) S [1, 2, 0] dX0_find_73 (by decide) rfl ?_
    refine z_iload S dX0_find_75 2 rfl ?_
    refine z_iconst (v := (-1)) S dX0_find_77 (by decide) ?_
    refine z_icmp_ne (tgt := 82) S he dX0_find_78 (by decide) (fun he => ?_) (fun he => ?_)
    · refine z_aload_n S dX0_find_82 rfl 0 rfl ?_
      refine z_iload S dX0_find_83 2 rfl ?_
      obtain ⟨M9, h9, he⟩ := bnd he
      refine z_cVV (As := [.int r7]) S cv_RX0_64 (K_X0_exchange  h9) ok_90 (by decide) (q := (RX0, TX0, 8)) rfl rfl ⟨rfl, rfl⟩ ⟨Nat.le_of_ble_eq_true rfl, Nat.le_of_ble_eq_true rfl⟩ ⟨Nat.le_refl _, Nat.le_refl _⟩ rfl rfl (Nat.le_of_ble_eq_true rfl) dX0_find_85 ?_
      refine z_iinc (v := (v3 + 1)) (lv' := [(0, .ref (X.2.2 90)), (3, .int (v3 + 1)), (4, .int r7)]) S [1, 0, 2] 1 dX0_find_88 rfl (by rfl) (by decide) rfl ?_
      refine z_goto (tgt := 61) S dX0_find_91 (by decide) ?_
      refine z_lv (ks := [0, 1]) rfl ?_
      exact hc _ (Option.some.inj he).symm
    · exact z_vret S (hr _ (Option.some.inj he).symm) dX0_find_81
set_option maxRecDepth 100000 in
set_option maxHeartbeats 4000000 in
theorem K_X0_find {X : Cx} {l : Launch} {M : Mm} {a1 : Nat} {N : Mm} (h_a1 : OK 0 a1 4) (he : f_X0_find M a1 = some N) : KV X 0 l yX0_find (wz yX0_find cX0_find 5 none) rm_X0_find [.ref (X.2.2 90), .ref (X.2.2 a1), .ref (X.2.2 82)] M N := by
  intro sz
  refine K_of (Qc := (fun sz => QV X 0 N sz)) (own := RX0) (lv0 := [(0, .ref (X.2.2 90)), (1, .ref (X.2.2 a1)), (2, .ref (X.2.2 82))]) (by decide +kernel) rfl (Nat.le_of_ble_eq_true rfl) rfl (fun p e s m args below meth c S => ?_) sz
  · unfold f_X0_find at he
    refine z_aload_n S dX0_find_0 rfl 0 rfl ?_
    refine z_aload_n S dX0_find_1 rfl 1 rfl ?_
    refine z_getI S fo_RX0_31 rfl h_a1 dX0_find_2 ?_
    refine z_putIb S fo_RX0_37p rfl ok_90 rfl rfl he dX0_find_5 (fun M1 he => ?_)
    refine z_aload_n S dX0_find_8 rfl 0 rfl ?_
    refine z_aload_n S dX0_find_9 rfl 1 rfl ?_
    refine z_getI S fo_RX0_38 rfl h_a1 dX0_find_10 ?_
    refine z_putIb S fo_RX0_41p rfl ok_90 rfl rfl he dX0_find_13 (fun M2 he => ?_)
    refine z_aload_n S dX0_find_16 rfl 0 rfl ?_
    refine z_getF (j := 92) S fo_RX0_15 2 rfl rfl ok_90 dX0_find_17 ?_
    refine z_iconst (v := (-1)) S dX0_find_20 (by decide) ?_
    obtain ⟨M3, h9, he⟩ := bnd he
    refine z_cSV (As := [.ref (X.2.2 92), .int (-1)]) S cs_RX0_42 (K_J7_fill_53178 ok_92 h9) ⟨rfl, rfl⟩ ⟨Nat.le_of_ble_eq_true rfl, Nat.le_of_ble_eq_true rfl⟩ ⟨Nat.le_refl _, Nat.le_refl _⟩ rfl rfl (Nat.le_of_ble_eq_true rfl) dX0_find_21 ?_
    refine z_iconst (v := 0) S dX0_find_24 (by decide) ?_
    refine z_istore_n (lv' := [(0, .ref (X.2.2 90)), (1, .ref (X.2.2 a1)), (2, .ref (X.2.2 82)), (3, .int 0)]) S [1, 2, 3, 0] dX0_find_25 rfl (by decide) rfl ?_
    obtain ⟨e_5, hl, he⟩ := bnd he
    have hX : Z X 0 p l e rm_X0_find s m args below meth c 0 0 (MQ below (QV X 0 N s.heap.size) args s 0 0 (AA X 0 s.heap.size)) 5 e_5 54 [(0, .ref (X.2.2 90)), (2, .ref (X.2.2 82))] [] := by
      refine z_aload_n S dX0_find_54 rfl 0 rfl ?_
      refine z_aload_n S dX0_find_55 rfl 1 rfl ?_
      obtain ⟨M6, h9, he⟩ := bnd he
      refine z_cVV (As := [.ref (X.2.2 82)]) S cv_RX0_56 (K_X0_setWorths  h9) ok_90 (by decide) (q := (RX0, TX0, 8)) rfl rfl ⟨rfl, rfl⟩ ⟨Nat.le_of_ble_eq_true rfl, Nat.le_of_ble_eq_true rfl⟩ ⟨Nat.le_refl _, Nat.le_refl _⟩ rfl rfl (Nat.le_of_ble_eq_true rfl) dX0_find_56 ?_
      refine z_iconst (v := 0) S dX0_find_59 (by decide) ?_
      refine z_istore_n (lv' := [(0, .ref (X.2.2 90)), (3, .int 0)]) S [1, 0] dX0_find_60 rfl (by decide) rfl ?_
      obtain ⟨r9, hl, hr1, hr2⟩ := bndS he
      have hX : ∀ e_10, r9 = .inr e_10 → Z X 0 p l e rm_X0_find s m args below meth c 0 0 (MQ below (QV X 0 N s.heap.size) args s 0 0 (AA X 0 s.heap.size)) 5 e_10 94 [] [] := by
        intro e_10 hre
        have he := hr2 e_10 hre
        exact z_vret S (Option.some.inj he) dX0_find_94
      have hZ9 := loopZ (f := (fun a_10 => f_X0_find_L61 a_10.1 a_10.2)) (Zh := (fun a_10 => Z X 0 p l e rm_X0_find s m args below meth c 0 0 (MQ below (QV X 0 N s.heap.size) args s 0 0 (AA X 0 s.heap.size)) 5 a_10.1 61 [(0, .ref (X.2.2 90)), (3, .int a_10.2)] [])) (fun a_10 x hb hc hr9 => p_X0_find_L61 S  hb hc (fun b hxe => hX b (hr9 _ hxe).symm) (fun v hxv => Option.some.inj (hr1 v (hr9 _ hxv).symm))) FU (M6, 0) hl
      exact hZ9
    have hZ9 := loopZ (f := (fun a_5 => f_X0_find_L26 a_5.1 a1 a_5.2)) (Zh := (fun a_5 => Z X 0 p l e rm_X0_find s m args below meth c 0 0 (MQ below (QV X 0 N s.heap.size) args s 0 0 (AA X 0 s.heap.size)) 5 a_5.1 26 [(0, .ref (X.2.2 90)), (1, .ref (X.2.2 a1)), (2, .ref (X.2.2 82)), (3, .int a_5.2)] [])) (fun a_5 x hb hc hr => p_X0_find_L26 S h_a1 hb hc (fun b hxe => by rw [hr b hxe]; exact hX)) FU (M3, 0) hl
    exact hZ9
set_option maxRecDepth 100000 in
set_option maxHeartbeats 4000000 in
theorem p_X0_sum_L4 {X : Cx} {p : Program} {l : Launch} {e : Env} {s : State} {m : MethodId} {args : Array Value} {below : List Frame} {meth : Method} {c : Code} (S : SB X 0 p s m args meth c cX0_sum 5 (some .int) RX0) {M : Mm} {r : Int32} {v2 : Int32} {v3 : Int32} {x : (Int32 × Int32) ⊕ Int32}  (he : f_X0_sum_L4 M v2 v3 = some x) (hc : ∀ b, x = .inl b → Z X 0 p l e rm_X0_sum s m args below meth c 0 0 (MQ below (QI X 0 r M s.heap.size) args s 0 0 (AA X 0 s.heap.size)) 5 M 4 [(0, .ref (X.2.2 90)), (1, .ref (X.2.2 82)), (2, .int b.1), (3, .int b.2)] []) (hx : ∀ b, x = .inr b → Z X 0 p l e rm_X0_sum s m args below meth c 0 0 (MQ below (QI X 0 r M s.heap.size) args s 0 0 (AA X 0 s.heap.size)) 5 M 48 [(2, .int b)] []) : Z X 0 p l e rm_X0_sum s m args below meth c 0 0 (MQ below (QI X 0 r M s.heap.size) args s 0 0 (AA X 0 s.heap.size)) 5 M 4 [(0, .ref (X.2.2 90)), (1, .ref (X.2.2 82)), (2, .int v2), (3, .int v3)] [] := by
  unfold f_X0_sum_L4 at he
  refine z_iload_n S dX0_sum_4 rfl 3 rfl ?_
  refine z_aload_n S dX0_sum_5 rfl 0 rfl ?_
  refine z_getI S fo_RX0_41 rfl ok_90 dX0_sum_6 ?_
  refine z_icmp_ge (tgt := 48) S he dX0_sum_9 (by decide) (fun he => ?_) (fun he => ?_)
  · refine z_lv (ks := [2]) rfl ?_
    exact hx _ (Option.some.inj he).symm
  · refine z_aload_n S dX0_sum_12 rfl 0 rfl ?_
    refine z_getF (j := 92) S fo_RX0_15 2 rfl rfl ok_90 dX0_sum_13 ?_
    refine z_iload_n S dX0_sum_16 rfl 3 rfl ?_
    refine z_cNI (As := [.ref (X.2.2 92), .int v3]) S cn_RX0_95 (Kt_X9_at ok_92 rfl) ⟨rfl, rfl⟩ ⟨Nat.le_of_ble_eq_true rfl, Nat.le_of_ble_eq_true rfl⟩ ⟨Nat.le_refl _, Nat.le_refl _⟩ rfl rfl (Nat.le_of_ble_eq_true rfl) dX0_sum_17 ?_
    refine z_istore (lv' := [(0, .ref (X.2.2 90)), (1, .ref (X.2.2 82)), (2, .int v2), (3, .int v3), (4, .int (t_X9_at M 92 v3))]) S [1, 2, 3, 4, 0] dX0_sum_20 (by decide) rfl ?_
    refine z_iload_n S dX0_sum_22 rfl 2 rfl ?_
    refine z_iload S dX0_sum_23 4 rfl ?_
    refine z_iconst (v := (-1)) S dX0_sum_25 (by decide) ?_
    refine z_icmp_ne (tgt := 33) S he dX0_sum_26 (by decide) (fun he => ?_) (fun he => ?_)
    · refine z_aload_n S dX0_sum_33 rfl 1 rfl ?_
      refine z_iload S dX0_sum_34 4 rfl ?_
      refine z_iload_n S dX0_sum_36 rfl 3 rfl ?_
      refine z_cVI (As := [.int (t_X9_at M 92 v3), .int v3]) S cv_RX0_70 (K_X6_likes  rfl) ok_82 (by decide) (q := (RX6, TX6, 4)) rfl rfl ⟨rfl, rfl⟩ ⟨Nat.le_of_ble_eq_true rfl, Nat.le_of_ble_eq_true rfl⟩ ⟨Nat.le_refl _, Nat.le_refl _⟩ rfl rfl (Nat.le_of_ble_eq_true rfl) dX0_sum_37 ?_
      refine z_iadd S dX0_sum_40 ?_
      obtain ⟨x1, ex1, he⟩ := bnd he
      rw [Option.some.inj ex1]
      refine z_istore_n (lv' := [(0, .ref (X.2.2 90)), (1, .ref (X.2.2 82)), (2, .int x1), (3, .int v3)]) S [1, 2, 0, 3] dX0_sum_41 rfl (by decide) rfl ?_
      refine z_iinc (v := (v3 + 1)) (lv' := [(0, .ref (X.2.2 90)), (1, .ref (X.2.2 82)), (2, .int x1), (3, .int (v3 + 1))]) S [1, 2, 3, 0] 3 dX0_sum_42 rfl (by rfl) (by decide) rfl ?_
      refine z_goto (tgt := 4) S dX0_sum_45 (by decide) ?_
      refine z_lv (ks := [0, 1, 2, 3]) rfl ?_
      exact hc _ (Option.some.inj he).symm
    · refine z_iconst (v := 0) S dX0_sum_29 (by decide) ?_
      refine z_goto (tgt := 40) S dX0_sum_30 (by decide) ?_
      refine z_iadd S dX0_sum_40 ?_
      refine z_istore_n (lv' := [(0, .ref (X.2.2 90)), (1, .ref (X.2.2 82)), (2, .int (v2 + 0)), (3, .int v3)]) S [1, 2, 0, 3] dX0_sum_41 rfl (by decide) rfl ?_
      refine z_iinc (v := (v3 + 1)) (lv' := [(0, .ref (X.2.2 90)), (1, .ref (X.2.2 82)), (2, .int (v2 + 0)), (3, .int (v3 + 1))]) S [1, 2, 3, 0] 3 dX0_sum_42 rfl (by rfl) (by decide) rfl ?_
      refine z_goto (tgt := 4) S dX0_sum_45 (by decide) ?_
      refine z_lv (ks := [0, 1, 2, 3]) rfl ?_
      exact hc _ (Option.some.inj he).symm
set_option maxRecDepth 100000 in
set_option maxHeartbeats 4000000 in
theorem K_X0_sum {X : Cx} {l : Launch} {M : Mm} {r : Int32}  (he : f_X0_sum M  = some r) : KI X 0 l yX0_sum (wz yX0_sum cX0_sum 5 (some .int)) rm_X0_sum [.ref (X.2.2 90), .ref (X.2.2 82)] M r M := by
  intro sz
  refine K_of (Qc := (fun sz => QI X 0 r M sz)) (own := RX0) (lv0 := [(0, .ref (X.2.2 90)), (1, .ref (X.2.2 82))]) (by decide +kernel) rfl (Nat.le_of_ble_eq_true rfl) rfl (fun p e s m args below meth c S => ?_) sz
  · unfold f_X0_sum at he
    refine z_iconst (v := 0) S dX0_sum_0 (by decide) ?_
    refine z_istore_n (lv' := [(0, .ref (X.2.2 90)), (1, .ref (X.2.2 82)), (2, .int 0)]) S [1, 2, 0] dX0_sum_1 rfl (by decide) rfl ?_
    refine z_iconst (v := 0) S dX0_sum_2 (by decide) ?_
    refine z_istore_n (lv' := [(0, .ref (X.2.2 90)), (1, .ref (X.2.2 82)), (2, .int 0), (3, .int 0)]) S [1, 2, 3, 0] dX0_sum_3 rfl (by decide) rfl ?_
    obtain ⟨e_2, hl, he⟩ := bnd he
    have hX : Z X 0 p l e rm_X0_sum s m args below meth c 0 0 (MQ below (QI X 0 r M s.heap.size) args s 0 0 (AA X 0 s.heap.size)) 5 M 48 [(2, .int e_2)] [] := by
      refine z_iload_n S dX0_sum_48 rfl 0 rfl ?_
      exact z_iret S (⟨Option.some.inj he, rfl⟩) dX0_sum_49
    have hZ9 := loopZ (f := (fun a_2 => f_X0_sum_L4 M a_2.1 a_2.2)) (Zh := (fun a_2 => Z X 0 p l e rm_X0_sum s m args below meth c 0 0 (MQ below (QI X 0 r M s.heap.size) args s 0 0 (AA X 0 s.heap.size)) 5 M 4 [(0, .ref (X.2.2 90)), (1, .ref (X.2.2 82)), (2, .int a_2.1), (3, .int a_2.2)] [])) (fun a_2 x hb hc hr => p_X0_sum_L4 S  hb hc (fun b hxe => by rw [hr b hxe]; exact hX)) FU (0, 0) hl
    exact hZ9
