set_option maxRecDepth 100000 in
set_option maxHeartbeats 4000000 in
theorem K_J0_isLatin1_aae02 {X : Cx} {l : Launch} {M : Mm} {a0 : Nat} {r : Bool} (h_a0 : isT a0 = true) (he : f_J0_isLatin1_aae02 M a0 = r) : KI X 0 l yJ0_isLatin1_aae02 (wz yJ0_isLatin1_aae02 cJ0_isLatin1_aae02 1 (some .boolean)) rm_J0_isLatin1_aae02 [.ref (X.2.2 a0)] M (bI r) M := by
  intro sz
  refine K_of (Qc := (fun sz => QI X 0 (bI r) M sz)) (own := RJ0) (lv0 := [(0, .ref (X.2.2 a0))]) (by decide +kernel) rfl (Nat.le_of_ble_eq_true rfl) rfl (fun p e s m args below meth c S => ?_) sz
  · unfold f_J0_isLatin1_aae02 at he
    refine z_comp S gc_RJ0_38 dJ0_isLatin1_aae02_0 ?_
    refine z_if_eq (tgt := 17) S he dJ0_isLatin1_aae02_3 (by decide) (fun he => ?_) (fun he => ?_)
    · refine z_iconst (v := 0) S dJ0_isLatin1_aae02_17 (by decide) ?_
      exact z_zret0 S (⟨he, rfl⟩) dJ0_isLatin1_aae02_18
    · refine z_aload_n S dJ0_isLatin1_aae02_6 rfl 0 rfl ?_
      refine z_tcod S h_a0 gs_RJ0_15 dJ0_isLatin1_aae02_7 ?_
      refine z_if_ne (tgt := 17) S he dJ0_isLatin1_aae02_10 (by decide) (fun he => ?_) (fun he => ?_)
      · refine z_iconst (v := 0) S dJ0_isLatin1_aae02_17 (by decide) ?_
        exact z_zret0 S (⟨he, rfl⟩) dJ0_isLatin1_aae02_18
      · refine z_iconst (v := 1) S dJ0_isLatin1_aae02_13 (by decide) ?_
        refine z_goto (tgt := 18) S dJ0_isLatin1_aae02_14 (by decide) ?_
        exact z_zret1 S (⟨he, rfl⟩) dJ0_isLatin1_aae02_18
set_option maxRecDepth 100000 in
set_option maxHeartbeats 4000000 in
theorem K_J0_coder_7d493 {X : Cx} {l : Launch} {M : Mm} {a0 : Nat} {r : Int32} (h_a0 : isT a0 = true) (he : f_J0_coder_7d493 M a0 = r) : KI X 0 l yJ0_coder_7d493 (wz yJ0_coder_7d493 cJ0_coder_7d493 1 (some .byte)) rm_J0_coder_7d493 [.ref (X.2.2 a0)] M r M := by
  intro sz
  refine K_of (Qc := (fun sz => QI X 0 r M sz)) (own := RJ0) (lv0 := [(0, .ref (X.2.2 a0))]) (by decide +kernel) rfl (Nat.le_of_ble_eq_true rfl) rfl (fun p e s m args below meth c S => ?_) sz
  · unfold f_J0_coder_7d493 at he
    refine z_comp S gc_RJ0_38 dJ0_coder_7d493_0 ?_
    refine z_if_eq (tgt := 13) S he dJ0_coder_7d493_3 (by decide) (fun he => ?_) (fun he => ?_)
    · refine z_iconst (v := 1) S dJ0_coder_7d493_13 (by decide) ?_
      exact z_nret S rfl rfl (⟨he, rfl⟩) dJ0_coder_7d493_14
    · refine z_aload_n S dJ0_coder_7d493_6 rfl 0 rfl ?_
      refine z_tcod S h_a0 gs_RJ0_15 dJ0_coder_7d493_7 ?_
      refine z_goto (tgt := 14) S dJ0_coder_7d493_10 (by decide) ?_
      exact z_nret S rfl rfl (⟨he, rfl⟩) dJ0_coder_7d493_14
set_option maxRecDepth 100000 in
set_option maxHeartbeats 4000000 in
theorem K_J0_length_8abf5 {X : Cx} {l : Launch} {M : Mm} {a0 : Nat} {r : Int32} (h_a0 : isT a0 = true) (he : f_J0_length_8abf5 M a0 = r) : KI X 0 l yJ0_length_8abf5 (wz yJ0_length_8abf5 cJ0_length_8abf5 1 (some .int)) rm_J0_length_8abf5 [.ref (X.2.2 a0)] M r M := by
  intro sz
  refine K_of (Qc := (fun sz => QI X 0 r M sz)) (own := RJ0) (lv0 := [(0, .ref (X.2.2 a0))]) (by decide +kernel) rfl (Nat.le_of_ble_eq_true rfl) rfl (fun p e s m args below meth c S => ?_) sz
  · unfold f_J0_length_8abf5 at he
    refine z_aload_n S dJ0_length_8abf5_0 rfl 0 rfl ?_
    refine z_tval S h_a0 gs_RJ0_9 dJ0_length_8abf5_1 ?_
    refine z_blen S (isT_B h_a0) dJ0_length_8abf5_4 ?_
    refine z_aload_n S dJ0_length_8abf5_5 rfl 0 rfl ?_
    refine z_cTI (As := []) S cv_RJ0_335 (K_J0_coder_7d493 h_a0 rfl) h_a0 ⟨rfl, rfl⟩ ⟨Nat.le_of_ble_eq_true rfl, Nat.le_of_ble_eq_true rfl⟩ ⟨Nat.le_refl _, Nat.le_refl _⟩ rfl rfl (Nat.le_of_ble_eq_true rfl) dJ0_length_8abf5_6 ?_
    refine z_ishr S dJ0_length_8abf5_9 ?_
    exact z_iret S (⟨he, rfl⟩) dJ0_length_8abf5_10
set_option maxRecDepth 100000 in
set_option maxHeartbeats 4000000 in
theorem K_J13_bitCount_95d88 {X : Cx} {l : Launch} {M : Mm} {a0 : Int64} {r : Int32}  (he : f_J13_bitCount_95d88 M a0 = some r) : KI X 0 l yJ13_bitCount_95d88 (wz yJ13_bitCount_95d88 cJ13_bitCount_95d88 2 (some .int)) rm_J13_bitCount_95d88 [.long a0] M r M := by
  intro sz
  refine K_of (Qc := (fun sz => QI X 0 r M sz)) (own := RJ13) (lv0 := [(0, .long a0)]) (by decide +kernel) rfl (Nat.le_of_ble_eq_true rfl) rfl (fun p e s m args below meth c S => ?_) sz
  · unfold f_J13_bitCount_95d88 at he
    refine z_lload_n S dJ13_bitCount_95d88_0 rfl 0 rfl ?_
    refine z_lload_n S dJ13_bitCount_95d88_1 rfl 0 rfl ?_
    refine z_iconst (v := 1) S dJ13_bitCount_95d88_2 (by decide) ?_
    refine z_lushr S dJ13_bitCount_95d88_3 ?_
    refine z_ldc2 (v := 6148914691236517205) S kc_RJ13_314 dJ13_bitCount_95d88_4 ?_
    refine z_land S dJ13_bitCount_95d88_7 ?_
    refine z_lsub S dJ13_bitCount_95d88_8 ?_
    obtain ⟨x1, ex1, he⟩ := bnd he
    rw [Option.some.inj ex1]
    refine z_lstore_n (lv' := [(0, .long x1)]) S [0] dJ13_bitCount_95d88_9 rfl (by decide) rfl ?_
    refine z_lload_n S dJ13_bitCount_95d88_10 rfl 0 rfl ?_
    refine z_ldc2 (v := 3689348814741910323) S kc_RJ13_316 dJ13_bitCount_95d88_11 ?_
    refine z_land S dJ13_bitCount_95d88_14 ?_
    refine z_lload_n S dJ13_bitCount_95d88_15 rfl 0 rfl ?_
    refine z_iconst (v := 2) S dJ13_bitCount_95d88_16 (by decide) ?_
    refine z_lushr S dJ13_bitCount_95d88_17 ?_
    refine z_ldc2 (v := 3689348814741910323) S kc_RJ13_316 dJ13_bitCount_95d88_18 ?_
    refine z_land S dJ13_bitCount_95d88_21 ?_
    refine z_ladd S dJ13_bitCount_95d88_22 ?_
    obtain ⟨x2, ex2, he⟩ := bnd he
    rw [Option.some.inj ex2]
    refine z_lstore_n (lv' := [(0, .long x2)]) S [0] dJ13_bitCount_95d88_23 rfl (by decide) rfl ?_
    refine z_lload_n S dJ13_bitCount_95d88_24 rfl 0 rfl ?_
    refine z_lload_n S dJ13_bitCount_95d88_25 rfl 0 rfl ?_
    refine z_iconst (v := 4) S dJ13_bitCount_95d88_26 (by decide) ?_
    refine z_lushr S dJ13_bitCount_95d88_27 ?_
    refine z_ladd S dJ13_bitCount_95d88_28 ?_
    refine z_ldc2 (v := 1085102592571150095) S kc_RJ13_318 dJ13_bitCount_95d88_29 ?_
    refine z_land S dJ13_bitCount_95d88_32 ?_
    obtain ⟨x3, ex3, he⟩ := bnd he
    rw [Option.some.inj ex3]
    refine z_lstore_n (lv' := [(0, .long x3)]) S [0] dJ13_bitCount_95d88_33 rfl (by decide) rfl ?_
    refine z_lload_n S dJ13_bitCount_95d88_34 rfl 0 rfl ?_
    refine z_lload_n S dJ13_bitCount_95d88_35 rfl 0 rfl ?_
    refine z_bipush (v := 8) S dJ13_bitCount_95d88_36 (by decide) ?_
    refine z_lushr S dJ13_bitCount_95d88_38 ?_
    refine z_ladd S dJ13_bitCount_95d88_39 ?_
    refine z_lstore_n (lv' := [(0, .long (x3 + (lush x3 8)))]) S [0] dJ13_bitCount_95d88_40 rfl (by decide) rfl ?_
    refine z_lload_n S dJ13_bitCount_95d88_41 rfl 0 rfl ?_
    refine z_lload_n S dJ13_bitCount_95d88_42 rfl 0 rfl ?_
    refine z_bipush (v := 16) S dJ13_bitCount_95d88_43 (by decide) ?_
    refine z_lushr S dJ13_bitCount_95d88_45 ?_
    refine z_ladd S dJ13_bitCount_95d88_46 ?_
    obtain ⟨x4, ex4, he⟩ := bnd he
    rw [Option.some.inj ex4]
    refine z_lstore_n (lv' := [(0, .long x4)]) S [0] dJ13_bitCount_95d88_47 rfl (by decide) rfl ?_
    refine z_lload_n S dJ13_bitCount_95d88_48 rfl 0 rfl ?_
    refine z_lload_n S dJ13_bitCount_95d88_49 rfl 0 rfl ?_
    refine z_bipush (v := 32) S dJ13_bitCount_95d88_50 (by decide) ?_
    refine z_lushr S dJ13_bitCount_95d88_52 ?_
    refine z_ladd S dJ13_bitCount_95d88_53 ?_
    refine z_lstore_n (lv' := [(0, .long (x4 + (lush x4 32)))]) S [0] dJ13_bitCount_95d88_54 rfl (by decide) rfl ?_
    refine z_lload_n S dJ13_bitCount_95d88_55 rfl 0 rfl ?_
    refine z_l2i S dJ13_bitCount_95d88_56 ?_
    refine z_bipush (v := 127) S dJ13_bitCount_95d88_57 (by decide) ?_
    refine z_iand S dJ13_bitCount_95d88_59 ?_
    exact z_iret S (⟨Option.some.inj he, rfl⟩) dJ13_bitCount_95d88_60
set_option maxRecDepth 100000 in
set_option maxHeartbeats 4000000 in
theorem K_J6_bitCount_0f7a4 {X : Cx} {l : Launch} {M : Mm} {a0 : Int32} {r : Int32}  (he : f_J6_bitCount_0f7a4 M a0 = some r) : KI X 0 l yJ6_bitCount_0f7a4 (wz yJ6_bitCount_0f7a4 cJ6_bitCount_0f7a4 1 (some .int)) rm_J6_bitCount_0f7a4 [.int a0] M r M := by
  intro sz
  refine K_of (Qc := (fun sz => QI X 0 r M sz)) (own := RJ6) (lv0 := [(0, .int a0)]) (by decide +kernel) rfl (Nat.le_of_ble_eq_true rfl) rfl (fun p e s m args below meth c S => ?_) sz
  · unfold f_J6_bitCount_0f7a4 at he
    refine z_iload_n S dJ6_bitCount_0f7a4_0 rfl 0 rfl ?_
    refine z_iload_n S dJ6_bitCount_0f7a4_1 rfl 0 rfl ?_
    refine z_iconst (v := 1) S dJ6_bitCount_0f7a4_2 (by decide) ?_
    refine z_iushr S dJ6_bitCount_0f7a4_3 ?_
    refine z_ldcw (v := 1431655765) S kc_RJ6_265 dJ6_bitCount_0f7a4_4 ?_
    refine z_iand S dJ6_bitCount_0f7a4_7 ?_
    refine z_isub S dJ6_bitCount_0f7a4_8 ?_
    obtain ⟨x1, ex1, he⟩ := bnd he
    rw [Option.some.inj ex1]
    refine z_istore_n (lv' := [(0, .int x1)]) S [0] dJ6_bitCount_0f7a4_9 rfl (by decide) rfl ?_
    refine z_iload_n S dJ6_bitCount_0f7a4_10 rfl 0 rfl ?_
    refine z_ldcw (v := 858993459) S kc_RJ6_266 dJ6_bitCount_0f7a4_11 ?_
    refine z_iand S dJ6_bitCount_0f7a4_14 ?_
    refine z_iload_n S dJ6_bitCount_0f7a4_15 rfl 0 rfl ?_
    refine z_iconst (v := 2) S dJ6_bitCount_0f7a4_16 (by decide) ?_
    refine z_iushr S dJ6_bitCount_0f7a4_17 ?_
    refine z_ldcw (v := 858993459) S kc_RJ6_266 dJ6_bitCount_0f7a4_18 ?_
    refine z_iand S dJ6_bitCount_0f7a4_21 ?_
    refine z_iadd S dJ6_bitCount_0f7a4_22 ?_
    obtain ⟨x2, ex2, he⟩ := bnd he
    rw [Option.some.inj ex2]
    refine z_istore_n (lv' := [(0, .int x2)]) S [0] dJ6_bitCount_0f7a4_23 rfl (by decide) rfl ?_
    refine z_iload_n S dJ6_bitCount_0f7a4_24 rfl 0 rfl ?_
    refine z_iload_n S dJ6_bitCount_0f7a4_25 rfl 0 rfl ?_
    refine z_iconst (v := 4) S dJ6_bitCount_0f7a4_26 (by decide) ?_
    refine z_iushr S dJ6_bitCount_0f7a4_27 ?_
    refine z_iadd S dJ6_bitCount_0f7a4_28 ?_
    refine z_ldcw (v := 252645135) S kc_RJ6_267 dJ6_bitCount_0f7a4_29 ?_
    refine z_iand S dJ6_bitCount_0f7a4_32 ?_
    obtain ⟨x3, ex3, he⟩ := bnd he
    rw [Option.some.inj ex3]
    refine z_istore_n (lv' := [(0, .int x3)]) S [0] dJ6_bitCount_0f7a4_33 rfl (by decide) rfl ?_
    refine z_iload_n S dJ6_bitCount_0f7a4_34 rfl 0 rfl ?_
    refine z_iload_n S dJ6_bitCount_0f7a4_35 rfl 0 rfl ?_
    refine z_bipush (v := 8) S dJ6_bitCount_0f7a4_36 (by decide) ?_
    refine z_iushr S dJ6_bitCount_0f7a4_38 ?_
    refine z_iadd S dJ6_bitCount_0f7a4_39 ?_
    refine z_istore_n (lv' := [(0, .int (x3 + (iush x3 8)))]) S [0] dJ6_bitCount_0f7a4_40 rfl (by decide) rfl ?_
    refine z_iload_n S dJ6_bitCount_0f7a4_41 rfl 0 rfl ?_
    refine z_iload_n S dJ6_bitCount_0f7a4_42 rfl 0 rfl ?_
    refine z_bipush (v := 16) S dJ6_bitCount_0f7a4_43 (by decide) ?_
    refine z_iushr S dJ6_bitCount_0f7a4_45 ?_
    refine z_iadd S dJ6_bitCount_0f7a4_46 ?_
    obtain ⟨x4, ex4, he⟩ := bnd he
    rw [Option.some.inj ex4]
    refine z_istore_n (lv' := [(0, .int x4)]) S [0] dJ6_bitCount_0f7a4_47 rfl (by decide) rfl ?_
    refine z_iload_n S dJ6_bitCount_0f7a4_48 rfl 0 rfl ?_
    refine z_bipush (v := 63) S dJ6_bitCount_0f7a4_49 (by decide) ?_
    refine z_iand S dJ6_bitCount_0f7a4_51 ?_
    exact z_iret S (⟨Option.some.inj he, rfl⟩) dJ6_bitCount_0f7a4_52
set_option maxRecDepth 100000 in
set_option maxHeartbeats 4000000 in
theorem p_J6_numberOfTrailingZeros_0f7a4_J74 {X : Cx} {p : Program} {l : Launch} {e : Env} {s : State} {m : MethodId} {args : Array Value} {below : List Frame} {meth : Method} {c : Code} (S : SB X 0 p s m args meth c cJ6_numberOfTrailingZeros_0f7a4 2 (some .int) RJ6) {M : Mm} {r : Int32} {v0 : Int32} {v1 : Int32}  (he : f_J6_numberOfTrailingZeros_0f7a4_J74 M v0 v1 = some r) : Z X 0 p l e rm_J6_numberOfTrailingZeros_0f7a4 s m args below meth c 0 0 (MQ below (QI X 0 r M s.heap.size) args s 0 0 (AA X 0 s.heap.size)) 2 M 74 [(0, .int v0), (1, .int v1)] [] := by
  unfold f_J6_numberOfTrailingZeros_0f7a4_J74 at he
  refine z_iload_n S dJ6_numberOfTrailingZeros_0f7a4_74 rfl 1 rfl ?_
  refine z_iload_n S dJ6_numberOfTrailingZeros_0f7a4_75 rfl 0 rfl ?_
  refine z_iconst (v := 1) S dJ6_numberOfTrailingZeros_0f7a4_76 (by decide) ?_
  refine z_iushr S dJ6_numberOfTrailingZeros_0f7a4_77 ?_
  refine z_iadd S dJ6_numberOfTrailingZeros_0f7a4_78 ?_
  exact z_iret S (⟨Option.some.inj he, rfl⟩) dJ6_numberOfTrailingZeros_0f7a4_79
set_option maxRecDepth 100000 in
set_option maxHeartbeats 4000000 in
theorem p_J6_numberOfTrailingZeros_0f7a4_J62 {X : Cx} {p : Program} {l : Launch} {e : Env} {s : State} {m : MethodId} {args : Array Value} {below : List Frame} {meth : Method} {c : Code} (S : SB X 0 p s m args meth c cJ6_numberOfTrailingZeros_0f7a4 2 (some .int) RJ6) {M : Mm} {r : Int32} {v0 : Int32} {v1 : Int32}  (he : f_J6_numberOfTrailingZeros_0f7a4_J62 M v0 v1 = some r) : Z X 0 p l e rm_J6_numberOfTrailingZeros_0f7a4 s m args below meth c 0 0 (MQ below (QI X 0 r M s.heap.size) args s 0 0 (AA X 0 s.heap.size)) 2 M 62 [(0, .int v0), (1, .int v1)] [] := by
  unfold f_J6_numberOfTrailingZeros_0f7a4_J62 at he
  refine z_iload_n S dJ6_numberOfTrailingZeros_0f7a4_62 rfl 0 rfl ?_
  refine z_iconst (v := 4) S dJ6_numberOfTrailingZeros_0f7a4_63 (by decide) ?_
  refine z_icmp_le (tgt := 74) S he dJ6_numberOfTrailingZeros_0f7a4_64 (by decide) (fun he => ?_) (fun he => ?_)
  · exact p_J6_numberOfTrailingZeros_0f7a4_J74 S  he
  · refine z_iinc (v := (v1 + 2)) (lv' := [(0, .int v0), (1, .int (v1 + 2))]) S [1, 0] 1 dJ6_numberOfTrailingZeros_0f7a4_67 rfl (by rfl) (by decide) rfl ?_
    refine z_iload_n S dJ6_numberOfTrailingZeros_0f7a4_70 rfl 0 rfl ?_
    refine z_iconst (v := 2) S dJ6_numberOfTrailingZeros_0f7a4_71 (by decide) ?_
    refine z_iushr S dJ6_numberOfTrailingZeros_0f7a4_72 ?_
    refine z_istore_n (lv' := [(0, .int (iush v0 2)), (1, .int (v1 + 2))]) S [0, 1] dJ6_numberOfTrailingZeros_0f7a4_73 rfl (by decide) rfl ?_
    exact p_J6_numberOfTrailingZeros_0f7a4_J74 S  he
set_option maxRecDepth 100000 in
set_option maxHeartbeats 4000000 in
theorem p_J6_numberOfTrailingZeros_0f7a4_J49 {X : Cx} {p : Program} {l : Launch} {e : Env} {s : State} {m : MethodId} {args : Array Value} {below : List Frame} {meth : Method} {c : Code} (S : SB X 0 p s m args meth c cJ6_numberOfTrailingZeros_0f7a4 2 (some .int) RJ6) {M : Mm} {r : Int32} {v0 : Int32} {v1 : Int32}  (he : f_J6_numberOfTrailingZeros_0f7a4_J49 M v0 v1 = some r) : Z X 0 p l e rm_J6_numberOfTrailingZeros_0f7a4 s m args below meth c 0 0 (MQ below (QI X 0 r M s.heap.size) args s 0 0 (AA X 0 s.heap.size)) 2 M 49 [(0, .int v0), (1, .int v1)] [] := by
  unfold f_J6_numberOfTrailingZeros_0f7a4_J49 at he
  refine z_iload_n S dJ6_numberOfTrailingZeros_0f7a4_49 rfl 0 rfl ?_
  refine z_bipush (v := 16) S dJ6_numberOfTrailingZeros_0f7a4_50 (by decide) ?_
  refine z_icmp_le (tgt := 62) S he dJ6_numberOfTrailingZeros_0f7a4_52 (by decide) (fun he => ?_) (fun he => ?_)
  · exact p_J6_numberOfTrailingZeros_0f7a4_J62 S  he
  · refine z_iinc (v := (v1 + 4)) (lv' := [(0, .int v0), (1, .int (v1 + 4))]) S [1, 0] 1 dJ6_numberOfTrailingZeros_0f7a4_55 rfl (by rfl) (by decide) rfl ?_
    refine z_iload_n S dJ6_numberOfTrailingZeros_0f7a4_58 rfl 0 rfl ?_
    refine z_iconst (v := 4) S dJ6_numberOfTrailingZeros_0f7a4_59 (by decide) ?_
    refine z_iushr S dJ6_numberOfTrailingZeros_0f7a4_60 ?_
    refine z_istore_n (lv' := [(0, .int (iush v0 4)), (1, .int (v1 + 4))]) S [0, 1] dJ6_numberOfTrailingZeros_0f7a4_61 rfl (by decide) rfl ?_
    exact p_J6_numberOfTrailingZeros_0f7a4_J62 S  he
set_option maxRecDepth 100000 in
set_option maxHeartbeats 4000000 in
theorem p_J6_numberOfTrailingZeros_0f7a4_J34 {X : Cx} {p : Program} {l : Launch} {e : Env} {s : State} {m : MethodId} {args : Array Value} {below : List Frame} {meth : Method} {c : Code} (S : SB X 0 p s m args meth c cJ6_numberOfTrailingZeros_0f7a4 2 (some .int) RJ6) {M : Mm} {r : Int32} {v0 : Int32} {v1 : Int32}  (he : f_J6_numberOfTrailingZeros_0f7a4_J34 M v0 v1 = some r) : Z X 0 p l e rm_J6_numberOfTrailingZeros_0f7a4 s m args below meth c 0 0 (MQ below (QI X 0 r M s.heap.size) args s 0 0 (AA X 0 s.heap.size)) 2 M 34 [(0, .int v0), (1, .int v1)] [] := by
  unfold f_J6_numberOfTrailingZeros_0f7a4_J34 at he
  refine z_iload_n S dJ6_numberOfTrailingZeros_0f7a4_34 rfl 0 rfl ?_
  refine z_sipush (v := 256) S dJ6_numberOfTrailingZeros_0f7a4_35 (by decide) ?_
  refine z_icmp_le (tgt := 49) S he dJ6_numberOfTrailingZeros_0f7a4_38 (by decide) (fun he => ?_) (fun he => ?_)
  · exact p_J6_numberOfTrailingZeros_0f7a4_J49 S  he
  · refine z_iinc (v := (v1 + 8)) (lv' := [(0, .int v0), (1, .int (v1 + 8))]) S [1, 0] 1 dJ6_numberOfTrailingZeros_0f7a4_41 rfl (by rfl) (by decide) rfl ?_
    refine z_iload_n S dJ6_numberOfTrailingZeros_0f7a4_44 rfl 0 rfl ?_
    refine z_bipush (v := 8) S dJ6_numberOfTrailingZeros_0f7a4_45 (by decide) ?_
    refine z_iushr S dJ6_numberOfTrailingZeros_0f7a4_47 ?_
    refine z_istore_n (lv' := [(0, .int (iush v0 8)), (1, .int (v1 + 8))]) S [0, 1] dJ6_numberOfTrailingZeros_0f7a4_48 rfl (by decide) rfl ?_
    exact p_J6_numberOfTrailingZeros_0f7a4_J49 S  he
set_option maxRecDepth 100000 in
set_option maxHeartbeats 4000000 in
theorem K_J6_numberOfTrailingZeros_0f7a4 {X : Cx} {l : Launch} {M : Mm} {a0 : Int32} {r : Int32}  (he : f_J6_numberOfTrailingZeros_0f7a4 M a0 = some r) : KI X 0 l yJ6_numberOfTrailingZeros_0f7a4 (wz yJ6_numberOfTrailingZeros_0f7a4 cJ6_numberOfTrailingZeros_0f7a4 2 (some .int)) rm_J6_numberOfTrailingZeros_0f7a4 [.int a0] M r M := by
  intro sz
  refine K_of (Qc := (fun sz => QI X 0 r M sz)) (own := RJ6) (lv0 := [(0, .int a0)]) (by decide +kernel) rfl (Nat.le_of_ble_eq_true rfl) rfl (fun p e s m args below meth c S => ?_) sz
  · unfold f_J6_numberOfTrailingZeros_0f7a4 at he
    refine z_iload_n S dJ6_numberOfTrailingZeros_0f7a4_0 rfl 0 rfl ?_
    refine z_iconst (v := (-1)) S dJ6_numberOfTrailingZeros_0f7a4_1 (by decide) ?_
    refine z_ixor S dJ6_numberOfTrailingZeros_0f7a4_2 ?_
    refine z_iload_n S dJ6_numberOfTrailingZeros_0f7a4_3 rfl 0 rfl ?_
    refine z_iconst (v := 1) S dJ6_numberOfTrailingZeros_0f7a4_4 (by decide) ?_
    refine z_isub S dJ6_numberOfTrailingZeros_0f7a4_5 ?_
    refine z_iand S dJ6_numberOfTrailingZeros_0f7a4_6 ?_
    obtain ⟨x1, ex1, he⟩ := bnd he
    rw [Option.some.inj ex1]
    refine z_istore_n (lv' := [(0, .int x1)]) S [0] dJ6_numberOfTrailingZeros_0f7a4_7 rfl (by decide) rfl ?_
    refine z_iload_n S dJ6_numberOfTrailingZeros_0f7a4_8 rfl 0 rfl ?_
    refine z_if_gt (tgt := 17) S he dJ6_numberOfTrailingZeros_0f7a4_9 (by decide) (fun he => ?_) (fun he => ?_)
    · refine z_iconst (v := 1) S dJ6_numberOfTrailingZeros_0f7a4_17 (by decide) ?_
      refine z_istore_n (lv' := [(0, .int x1), (1, .int 1)]) S [1, 0] dJ6_numberOfTrailingZeros_0f7a4_18 rfl (by decide) rfl ?_
      refine z_iload_n S dJ6_numberOfTrailingZeros_0f7a4_19 rfl 0 rfl ?_
      refine z_ldcw (v := 65536) S kc_RJ6_264 dJ6_numberOfTrailingZeros_0f7a4_20 ?_
      refine z_icmp_le (tgt := 34) S he dJ6_numberOfTrailingZeros_0f7a4_23 (by decide) (fun he => ?_) (fun he => ?_)
      · exact p_J6_numberOfTrailingZeros_0f7a4_J34 S  he
      · refine z_iinc (v := (1 + 16)) (lv' := [(0, .int x1), (1, .int (1 + 16))]) S [1, 0] 1 dJ6_numberOfTrailingZeros_0f7a4_26 rfl (by rfl) (by decide) rfl ?_
        refine z_iload_n S dJ6_numberOfTrailingZeros_0f7a4_29 rfl 0 rfl ?_
        refine z_bipush (v := 16) S dJ6_numberOfTrailingZeros_0f7a4_30 (by decide) ?_
        refine z_iushr S dJ6_numberOfTrailingZeros_0f7a4_32 ?_
        refine z_istore_n (lv' := [(0, .int (iush x1 16)), (1, .int (1 + 16))]) S [0, 1] dJ6_numberOfTrailingZeros_0f7a4_33 rfl (by decide) rfl ?_
        exact p_J6_numberOfTrailingZeros_0f7a4_J34 S  he
    · refine z_iload_n S dJ6_numberOfTrailingZeros_0f7a4_12 rfl 0 rfl ?_
      refine z_bipush (v := 32) S dJ6_numberOfTrailingZeros_0f7a4_13 (by decide) ?_
      refine z_iand S dJ6_numberOfTrailingZeros_0f7a4_15 ?_
      exact z_iret S (⟨Option.some.inj he, rfl⟩) dJ6_numberOfTrailingZeros_0f7a4_16
set_option maxRecDepth 100000 in
set_option maxHeartbeats 4000000 in
theorem p_J7_fill_53178_L5 {X : Cx} {p : Program} {l : Launch} {e : Env} {s : State} {m : MethodId} {args : Array Value} {below : List Frame} {meth : Method} {c : Code} (S : SB X 0 p s m args meth c cJ7_fill_53178 4 none RJ7) {M : Mm} {N : Mm} {v0 : Nat} {v1 : Int32} {v2 : Int32} {v3 : Int32} {x : (Mm × Int32) ⊕ Mm} (h_v0 : OK 0 v0 30) (he : f_J7_fill_53178_L5 M v0 v1 v2 v3 = some x) (hc : ∀ b, x = .inl b → Z X 0 p l e rm_J7_fill_53178 s m args below meth c 0 0 (MQ below (QV X 0 N s.heap.size) args s 0 0 (AA X 0 s.heap.size)) 4 b.1 5 [(0, .ref (X.2.2 v0)), (1, .int v1), (2, .int b.2), (3, .int v3)] []) (hx : ∀ b, x = .inr b → Z X 0 p l e rm_J7_fill_53178 s m args below meth c 0 0 (MQ below (QV X 0 N s.heap.size) args s 0 0 (AA X 0 s.heap.size)) 4 b 20 [] []) : Z X 0 p l e rm_J7_fill_53178 s m args below meth c 0 0 (MQ below (QV X 0 N s.heap.size) args s 0 0 (AA X 0 s.heap.size)) 4 M 5 [(0, .ref (X.2.2 v0)), (1, .int v1), (2, .int v2), (3, .int v3)] [] := by
  unfold f_J7_fill_53178_L5 at he
  refine z_iload_n S dJ7_fill_53178_5 rfl 2 rfl ?_
  refine z_iload_n S dJ7_fill_53178_6 rfl 3 rfl ?_
  refine z_icmp_ge (tgt := 20) S he dJ7_fill_53178_7 (by decide) (fun he => ?_) (fun he => ?_)
  · refine z_lv (ks := []) rfl ?_
    exact hx _ (Option.some.inj he).symm
  · refine z_aload_n S dJ7_fill_53178_10 rfl 0 rfl ?_
    refine z_iload_n S dJ7_fill_53178_11 rfl 2 rfl ?_
    refine z_iload_n S dJ7_fill_53178_12 rfl 1 rfl ?_
    refine z_iastb S h_v0 rfl he dJ7_fill_53178_13 (fun M1 he => ?_)
    refine z_iinc (v := (v2 + 1)) (lv' := [(0, .ref (X.2.2 v0)), (1, .int v1), (2, .int (v2 + 1)), (3, .int v3)]) S [1, 2, 0, 3] 2 dJ7_fill_53178_14 rfl (by rfl) (by decide) rfl ?_
    refine z_goto (tgt := 5) S dJ7_fill_53178_17 (by decide) ?_
    refine z_lv (ks := [0, 1, 2, 3]) rfl ?_
    exact hc _ (Option.some.inj he).symm
set_option maxRecDepth 100000 in
set_option maxHeartbeats 4000000 in
theorem K_J7_fill_53178 {X : Cx} {l : Launch} {M : Mm} {a0 : Nat} {a1 : Int32} {N : Mm} (h_a0 : OK 0 a0 30) (he : f_J7_fill_53178 M a0 a1 = some N) : KV X 0 l yJ7_fill_53178 (wz yJ7_fill_53178 cJ7_fill_53178 4 none) rm_J7_fill_53178 [.ref (X.2.2 a0), .int a1] M N := by
  intro sz
  refine K_of (Qc := (fun sz => QV X 0 N sz)) (own := RJ7) (lv0 := [(0, .ref (X.2.2 a0)), (1, .int a1)]) (by decide +kernel) rfl (Nat.le_of_ble_eq_true rfl) rfl (fun p e s m args below meth c S => ?_) sz
  · unfold f_J7_fill_53178 at he
    refine z_iconst (v := 0) S dJ7_fill_53178_0 (by decide) ?_
    refine z_istore_n (lv' := [(0, .ref (X.2.2 a0)), (1, .int a1), (2, .int 0)]) S [1, 2, 0] dJ7_fill_53178_1 rfl (by decide) rfl ?_
    refine z_aload_n S dJ7_fill_53178_2 rfl 0 rfl ?_
    refine z_alen (v := Int32.ofNat (ln a0)) S h_a0 (cel_i h_a0.2.2) rfl rfl rfl dJ7_fill_53178_3 ?_
    refine z_istore_n (lv' := [(0, .ref (X.2.2 a0)), (1, .int a1), (2, .int 0), (3, .int (Int32.ofNat (ln a0)))]) S [1, 2, 3, 0] dJ7_fill_53178_4 rfl (by decide) rfl ?_
    obtain ⟨e_2, hl, he⟩ := bnd he
    have hX : Z X 0 p l e rm_J7_fill_53178 s m args below meth c 0 0 (MQ below (QV X 0 N s.heap.size) args s 0 0 (AA X 0 s.heap.size)) 4 e_2 20 [] [] := by
      exact z_vret S (Option.some.inj he) dJ7_fill_53178_20
    exact loopZ (Zh := (fun a_2 => Z X 0 p l e rm_J7_fill_53178 s m args below meth c 0 0 (MQ below (QV X 0 N s.heap.size) args s 0 0 (AA X 0 s.heap.size)) 4 a_2.1 5 [(0, .ref (X.2.2 a0)), (1, .int a1), (2, .int a_2.2), (3, .int (Int32.ofNat (ln a0)))] [])) (fun a_2 x hb hc hr => p_J7_fill_53178_L5 S h_a0 hb hc (fun b hxe => by rw [hr b hxe]; exact hX)) FU _ hl
set_option maxRecDepth 100000 in
set_option maxHeartbeats 4000000 in
theorem p_J7_fill_d0a16_L6 {X : Cx} {p : Program} {l : Launch} {e : Env} {s : State} {m : MethodId} {args : Array Value} {below : List Frame} {meth : Method} {c : Code} (S : SB X 0 p s m args meth c cJ7_fill_d0a16 5 none RJ7) {M : Mm} {N : Mm} {v0 : Nat} {v1 : Int64} {v3 : Int32} {v4 : Int32} {x : (Mm × Int32) ⊕ Mm} (h_v0 : OK 0 v0 31) (he : f_J7_fill_d0a16_L6 M v0 v1 v3 v4 = some x) (hc : ∀ b, x = .inl b → Z X 0 p l e rm_J7_fill_d0a16 s m args below meth c 0 0 (MQ below (QV X 0 N s.heap.size) args s 0 0 (AA X 0 s.heap.size)) 5 b.1 6 [(0, .ref (X.2.2 v0)), (1, .long v1), (3, .int b.2), (4, .int v4)] []) (hx : ∀ b, x = .inr b → Z X 0 p l e rm_J7_fill_d0a16 s m args below meth c 0 0 (MQ below (QV X 0 N s.heap.size) args s 0 0 (AA X 0 s.heap.size)) 5 b 22 [] []) : Z X 0 p l e rm_J7_fill_d0a16 s m args below meth c 0 0 (MQ below (QV X 0 N s.heap.size) args s 0 0 (AA X 0 s.heap.size)) 5 M 6 [(0, .ref (X.2.2 v0)), (1, .long v1), (3, .int v3), (4, .int v4)] [] := by
  unfold f_J7_fill_d0a16_L6 at he
  refine z_iload_n S dJ7_fill_d0a16_6 rfl 2 rfl ?_
  refine z_iload S dJ7_fill_d0a16_7 3 rfl ?_
  refine z_icmp_ge (tgt := 22) S he dJ7_fill_d0a16_9 (by decide) (fun he => ?_) (fun he => ?_)
  · refine z_lv (ks := []) rfl ?_
    exact hx _ (Option.some.inj he).symm
  · refine z_aload_n S dJ7_fill_d0a16_12 rfl 0 rfl ?_
    refine z_iload_n S dJ7_fill_d0a16_13 rfl 2 rfl ?_
    refine z_lload_n S dJ7_fill_d0a16_14 rfl 1 rfl ?_
    refine z_lastb S h_v0 rfl he dJ7_fill_d0a16_15 (fun M1 he => ?_)
    refine z_iinc (v := (v3 + 1)) (lv' := [(0, .ref (X.2.2 v0)), (1, .long v1), (3, .int (v3 + 1)), (4, .int v4)]) S [1, 2, 0, 3] 2 dJ7_fill_d0a16_16 rfl (by rfl) (by decide) rfl ?_
    refine z_goto (tgt := 6) S dJ7_fill_d0a16_19 (by decide) ?_
    refine z_lv (ks := [0, 1, 2, 3]) rfl ?_
    exact hc _ (Option.some.inj he).symm
set_option maxRecDepth 100000 in
set_option maxHeartbeats 4000000 in
theorem K_J7_fill_d0a16 {X : Cx} {l : Launch} {M : Mm} {a0 : Nat} {a1 : Int64} {N : Mm} (h_a0 : OK 0 a0 31) (he : f_J7_fill_d0a16 M a0 a1 = some N) : KV X 0 l yJ7_fill_d0a16 (wz yJ7_fill_d0a16 cJ7_fill_d0a16 5 none) rm_J7_fill_d0a16 [.ref (X.2.2 a0), .long a1] M N := by
  intro sz
  refine K_of (Qc := (fun sz => QV X 0 N sz)) (own := RJ7) (lv0 := [(0, .ref (X.2.2 a0)), (1, .long a1)]) (by decide +kernel) rfl (Nat.le_of_ble_eq_true rfl) rfl (fun p e s m args below meth c S => ?_) sz
  · unfold f_J7_fill_d0a16 at he
    refine z_iconst (v := 0) S dJ7_fill_d0a16_0 (by decide) ?_
    refine z_istore_n (lv' := [(0, .ref (X.2.2 a0)), (1, .long a1), (3, .int 0)]) S [1, 2, 0] dJ7_fill_d0a16_1 rfl (by decide) rfl ?_
    refine z_aload_n S dJ7_fill_d0a16_2 rfl 0 rfl ?_
    refine z_alen (v := Int32.ofNat (ln a0)) S h_a0 (cel_j h_a0.2.2) rfl rfl rfl dJ7_fill_d0a16_3 ?_
    refine z_istore (lv' := [(0, .ref (X.2.2 a0)), (1, .long a1), (3, .int 0), (4, .int (Int32.ofNat (ln a0)))]) S [1, 2, 3, 0] dJ7_fill_d0a16_4 (by decide) rfl ?_
    obtain ⟨e_2, hl, he⟩ := bnd he
    have hX : Z X 0 p l e rm_J7_fill_d0a16 s m args below meth c 0 0 (MQ below (QV X 0 N s.heap.size) args s 0 0 (AA X 0 s.heap.size)) 5 e_2 22 [] [] := by
      exact z_vret S (Option.some.inj he) dJ7_fill_d0a16_22
    exact loopZ (Zh := (fun a_2 => Z X 0 p l e rm_J7_fill_d0a16 s m args below meth c 0 0 (MQ below (QV X 0 N s.heap.size) args s 0 0 (AA X 0 s.heap.size)) 5 a_2.1 6 [(0, .ref (X.2.2 a0)), (1, .long a1), (3, .int a_2.2), (4, .int (Int32.ofNat (ln a0)))] [])) (fun a_2 x hb hc hr => p_J7_fill_d0a16_L6 S h_a0 hb hc (fun b hxe => by rw [hr b hxe]; exact hX)) FU _ hl
set_option maxRecDepth 100000 in
set_option maxHeartbeats 4000000 in
theorem K_X4_copyFrom {X : Cx} {l : Launch} {M : Mm} {a0 : Nat} {a1 : Nat} {N : Mm} (h_a0 : OK 0 a0 4) (h_a1 : OK 0 a1 4) (he : f_X4_copyFrom M a0 a1 = some N) : KV X 0 l yX4_copyFrom (wz yX4_copyFrom cX4_copyFrom 2 none) rm_X4_copyFrom [.ref (X.2.2 a0), .ref (X.2.2 a1)] M N := by
  intro sz
  refine K_of (Qc := (fun sz => QV X 0 N sz)) (own := RX4) (lv0 := [(0, .ref (X.2.2 a0)), (1, .ref (X.2.2 a1))]) (by decide +kernel) rfl (Nat.le_of_ble_eq_true rfl) rfl (fun p e s m args below meth c S => ?_) sz
  · unfold f_X4_copyFrom at he
    refine z_aload_n S dX4_copyFrom_0 rfl 1 rfl ?_
    refine z_getF (j := (a1 + 1)) S fo_RX4_9 1 rfl rfl h_a1 dX4_copyFrom_1 ?_
    refine z_iconst (v := 0) S dX4_copyFrom_4 (by decide) ?_
    refine z_aload_n S dX4_copyFrom_5 rfl 0 rfl ?_
    refine z_getF (j := (a0 + 1)) S fo_RX4_9 1 rfl rfl h_a0 dX4_copyFrom_6 ?_
    refine z_iconst (v := 0) S dX4_copyFrom_9 (by decide) ?_
    refine z_aload_n S dX4_copyFrom_10 rfl 0 rfl ?_
    refine z_getF (j := (a0 + 1)) S fo_RX4_9 1 rfl rfl h_a0 dX4_copyFrom_11 ?_
    refine z_alen (v := 45) S (okf4_1 h_a0).1 (cel_i (okf4_1 h_a0).1.2.2) rfl (okf4_1 h_a0).2 rfl dX4_copyFrom_14 ?_
    refine z_copyb S ca_RX4_28 (okf4_1 h_a1).1 (okf4_1 h_a0).1 (okf4_1 h_a1).2 (okf4_1 h_a0).2 (by decide) (by decide) (Nat.le_of_ble_eq_true rfl) (Nat.le_of_ble_eq_true rfl) he dX4_copyFrom_15 (fun M1 he => ?_)
    refine z_aload_n S dX4_copyFrom_18 rfl 1 rfl ?_
    refine z_getF (j := (a1 + 2)) S fo_RX4_15 2 rfl rfl h_a1 dX4_copyFrom_19 ?_
    refine z_iconst (v := 0) S dX4_copyFrom_22 (by decide) ?_
    refine z_aload_n S dX4_copyFrom_23 rfl 0 rfl ?_
    refine z_getF (j := (a0 + 2)) S fo_RX4_15 2 rfl rfl h_a0 dX4_copyFrom_24 ?_
    refine z_iconst (v := 0) S dX4_copyFrom_27 (by decide) ?_
    refine z_aload_n S dX4_copyFrom_28 rfl 0 rfl ?_
    refine z_getF (j := (a0 + 2)) S fo_RX4_15 2 rfl rfl h_a0 dX4_copyFrom_29 ?_
    refine z_alen (v := 50) S (okf4_2 h_a0).1 (cel_i (okf4_2 h_a0).1.2.2) rfl (okf4_2 h_a0).2 rfl dX4_copyFrom_32 ?_
    refine z_copyb S ca_RX4_28 (okf4_2 h_a1).1 (okf4_2 h_a0).1 (okf4_2 h_a1).2 (okf4_2 h_a0).2 (by decide) (by decide) (Nat.le_of_ble_eq_true rfl) (Nat.le_of_ble_eq_true rfl) he dX4_copyFrom_33 (fun M2 he => ?_)
    refine z_aload_n S dX4_copyFrom_36 rfl 1 rfl ?_
    refine z_getF (j := (a1 + 3)) S fo_RX4_18 3 rfl rfl h_a1 dX4_copyFrom_37 ?_
    refine z_iconst (v := 0) S dX4_copyFrom_40 (by decide) ?_
    refine z_aload_n S dX4_copyFrom_41 rfl 0 rfl ?_
    refine z_getF (j := (a0 + 3)) S fo_RX4_18 3 rfl rfl h_a0 dX4_copyFrom_42 ?_
    refine z_iconst (v := 0) S dX4_copyFrom_45 (by decide) ?_
    refine z_aload_n S dX4_copyFrom_46 rfl 0 rfl ?_
    refine z_getF (j := (a0 + 3)) S fo_RX4_18 3 rfl rfl h_a0 dX4_copyFrom_47 ?_
    refine z_alen (v := 300) S (okf4_3 h_a0).1 (cel_i (okf4_3 h_a0).1.2.2) rfl (okf4_3 h_a0).2 rfl dX4_copyFrom_50 ?_
    refine z_copyb S ca_RX4_28 (okf4_3 h_a1).1 (okf4_3 h_a0).1 (okf4_3 h_a1).2 (okf4_3 h_a0).2 (by decide) (by decide) (Nat.le_of_ble_eq_true rfl) (Nat.le_of_ble_eq_true rfl) he dX4_copyFrom_51 (fun M3 he => ?_)
    refine z_aload_n S dX4_copyFrom_54 rfl 0 rfl ?_
    refine z_aload_n S dX4_copyFrom_55 rfl 1 rfl ?_
    refine z_getI S fo_RX4_34 rfl h_a1 dX4_copyFrom_56 ?_
    refine z_putIb S fo_RX4_34p rfl h_a0 rfl rfl he dX4_copyFrom_59 (fun M4 he => ?_)
    refine z_aload_n S dX4_copyFrom_62 rfl 0 rfl ?_
    refine z_aload_n S dX4_copyFrom_63 rfl 1 rfl ?_
    refine z_getI S fo_RX4_37 rfl h_a1 dX4_copyFrom_64 ?_
    refine z_putIb S fo_RX4_37p rfl h_a0 rfl rfl he dX4_copyFrom_67 (fun M5 he => ?_)
    refine z_aload_n S dX4_copyFrom_70 rfl 0 rfl ?_
    refine z_aload_n S dX4_copyFrom_71 rfl 1 rfl ?_
    refine z_getI S fo_RX4_40 rfl h_a1 dX4_copyFrom_72 ?_
    refine z_putIb S fo_RX4_40p rfl h_a0 rfl rfl he dX4_copyFrom_75 (fun M6 he => ?_)
    refine z_aload_n S dX4_copyFrom_78 rfl 0 rfl ?_
    refine z_aload_n S dX4_copyFrom_79 rfl 1 rfl ?_
    refine z_getI S fo_RX4_21 rfl h_a1 dX4_copyFrom_80 ?_
    refine z_putIb S fo_RX4_21p rfl h_a0 rfl rfl he dX4_copyFrom_83 (fun M7 he => ?_)
    refine z_aload_n S dX4_copyFrom_86 rfl 0 rfl ?_
    refine z_aload_n S dX4_copyFrom_87 rfl 1 rfl ?_
    refine z_getI S fo_RX4_43 rfl h_a1 dX4_copyFrom_88 ?_
    refine z_putIb S fo_RX4_43p rfl h_a0 rfl rfl he dX4_copyFrom_91 (fun M8 he => ?_)
    refine z_aload_n S dX4_copyFrom_94 rfl 0 rfl ?_
    refine z_aload_n S dX4_copyFrom_95 rfl 1 rfl ?_
    refine z_getI S fo_RX4_25 rfl h_a1 dX4_copyFrom_96 ?_
    refine z_putIb S fo_RX4_25p rfl h_a0 rfl rfl he dX4_copyFrom_99 (fun M9 he => ?_)
    refine z_aload_n S dX4_copyFrom_102 rfl 0 rfl ?_
    refine z_aload_n S dX4_copyFrom_103 rfl 1 rfl ?_
    refine z_getI S fo_RX4_46 rfl h_a1 dX4_copyFrom_104 ?_
    refine z_putIb S fo_RX4_46p rfl h_a0 rfl rfl he dX4_copyFrom_107 (fun M10 he => ?_)
    exact z_vret S (Option.some.inj he) dX4_copyFrom_110
set_option maxRecDepth 100000 in
set_option maxHeartbeats 4000000 in
theorem K_X9_put {X : Cx} {l : Launch} {M : Mm} {a0 : Nat} {a1 : Int32} {a2 : Int32} {N : Mm} (h_a0 : OK 0 a0 30) (he : f_X9_put M a0 a1 a2 = some N) : KV X 0 l yX9_put (wz yX9_put cX9_put 3 none) rm_X9_put [.ref (X.2.2 a0), .int a1, .int a2] M N := by
  intro sz
  refine K_of (Qc := (fun sz => QV X 0 N sz)) (own := RX9) (lv0 := [(0, .ref (X.2.2 a0)), (1, .int a1), (2, .int a2)]) (by decide +kernel) rfl (Nat.le_of_ble_eq_true rfl) rfl (fun p e s m args below meth c S => ?_) sz
  · unfold f_X9_put at he
    refine z_iload_n S dX9_put_0 rfl 1 rfl ?_
    refine z_if_lt (tgt := 14) S he dX9_put_1 (by decide) (fun he => ?_) (fun he => ?_)
    · exact z_vret S (Option.some.inj he) dX9_put_14
    · refine z_iload_n S dX9_put_4 rfl 1 rfl ?_
      refine z_aload_n S dX9_put_5 rfl 0 rfl ?_
      refine z_alen (v := Int32.ofNat (ln a0)) S h_a0 (cel_i h_a0.2.2) rfl rfl rfl dX9_put_6 ?_
      refine z_icmp_ge (tgt := 14) S he dX9_put_7 (by decide) (fun he => ?_) (fun he => ?_)
      · exact z_vret S (Option.some.inj he) dX9_put_14
      · refine z_aload_n S dX9_put_10 rfl 0 rfl ?_
        refine z_iload_n S dX9_put_11 rfl 1 rfl ?_
        refine z_iload_n S dX9_put_12 rfl 2 rfl ?_
        refine z_iastb S h_a0 rfl he dX9_put_13 (fun M1 he => ?_)
        exact z_vret S (Option.some.inj he) dX9_put_14
set_option maxRecDepth 100000 in
set_option maxHeartbeats 4000000 in
theorem K_X4_setVisitor {X : Cx} {l : Launch} {M : Mm} {a0 : Nat} {a1 : Int32} {a2 : Int32} {a3 : Int32} {N : Mm} (h_a0 : OK 0 a0 4) (he : f_X4_setVisitor M a0 a1 a2 a3 = some N) : KV X 0 l yX4_setVisitor (wz yX4_setVisitor cX4_setVisitor 4 none) rm_X4_setVisitor [.ref (X.2.2 a0), .int a1, .int a2, .int a3] M N := by
  intro sz
  refine K_of (Qc := (fun sz => QV X 0 N sz)) (own := RX4) (lv0 := [(0, .ref (X.2.2 a0)), (1, .int a1), (2, .int a2), (3, .int a3)]) (by decide +kernel) rfl (Nat.le_of_ble_eq_true rfl) rfl (fun p e s m args below meth c S => ?_) sz
  · unfold f_X4_setVisitor at he
    refine z_aload_n S dX4_setVisitor_0 rfl 0 rfl ?_
    refine z_getF (j := (a0 + 2)) S fo_RX4_15 2 rfl rfl h_a0 dX4_setVisitor_1 ?_
    refine z_iload_n S dX4_setVisitor_4 rfl 1 rfl ?_
    refine z_iconst (v := 5) S dX4_setVisitor_5 (by decide) ?_
    refine z_imul S dX4_setVisitor_6 ?_
    refine z_iload_n S dX4_setVisitor_7 rfl 2 rfl ?_
    refine z_iadd S dX4_setVisitor_8 ?_
    refine z_iload_n S dX4_setVisitor_9 rfl 3 rfl ?_
    obtain ⟨M1, h9, he⟩ := bnd he
    refine z_cNV (As := [.ref (X.2.2 (a0 + 2)), .int ((a1 * 5) + a2), .int a3]) S cn_RX4_53 (K_X9_put (okf4_2 h_a0).1 h9) ⟨rfl, rfl⟩ ⟨Nat.le_of_ble_eq_true rfl, Nat.le_of_ble_eq_true rfl⟩ ⟨Nat.le_refl _, Nat.le_refl _⟩ rfl rfl (Nat.le_of_ble_eq_true rfl) dX4_setVisitor_10 ?_
    exact z_vret S (Option.some.inj he) dX4_setVisitor_13
set_option maxRecDepth 100000 in
set_option maxHeartbeats 4000000 in
theorem K_X9_at {X : Cx} {l : Launch} {M : Mm} {a0 : Nat} {a1 : Int32} {r : Int32} (h_a0 : OK 0 a0 30) (he : f_X9_at M a0 a1 = some r) : KI X 0 l yX9_at (wz yX9_at cX9_at 2 (some .int)) rm_X9_at [.ref (X.2.2 a0), .int a1] M r M := by
  intro sz
  refine K_of (Qc := (fun sz => QI X 0 r M sz)) (own := RX9) (lv0 := [(0, .ref (X.2.2 a0)), (1, .int a1)]) (by decide +kernel) rfl (Nat.le_of_ble_eq_true rfl) rfl (fun p e s m args below meth c S => ?_) sz
  · unfold f_X9_at at he
    refine z_iload_n S dX9_at_0 rfl 1 rfl ?_
    refine z_if_lt (tgt := 16) S he dX9_at_1 (by decide) (fun he => ?_) (fun he => ?_)
    · refine z_iconst (v := 0) S dX9_at_16 (by decide) ?_
      exact z_iret S (⟨Option.some.inj he, rfl⟩) dX9_at_17
    · refine z_iload_n S dX9_at_4 rfl 1 rfl ?_
      refine z_aload_n S dX9_at_5 rfl 0 rfl ?_
      refine z_alen (v := Int32.ofNat (ln a0)) S h_a0 (cel_i h_a0.2.2) rfl rfl rfl dX9_at_6 ?_
      refine z_icmp_ge (tgt := 16) S he dX9_at_7 (by decide) (fun he => ?_) (fun he => ?_)
      · refine z_iconst (v := 0) S dX9_at_16 (by decide) ?_
        exact z_iret S (⟨Option.some.inj he, rfl⟩) dX9_at_17
      · refine z_aload_n S dX9_at_10 rfl 0 rfl ?_
        refine z_iload_n S dX9_at_11 rfl 1 rfl ?_
        refine z_iald S h_a0 rfl he dX9_at_12 (fun he => ?_)
        refine z_goto (tgt := 17) S dX9_at_13 (by decide) ?_
        exact z_iret S (⟨Option.some.inj he, rfl⟩) dX9_at_17
set_option maxRecDepth 100000 in
set_option maxHeartbeats 4000000 in
theorem K_X4_ofVisitor {X : Cx} {l : Launch} {M : Mm} {a0 : Nat} {a1 : Int32} {a2 : Int32} {r : Int32} (h_a0 : OK 0 a0 4) (he : f_X4_ofVisitor M a0 a1 a2 = some r) : KI X 0 l yX4_ofVisitor (wz yX4_ofVisitor cX4_ofVisitor 3 (some .int)) rm_X4_ofVisitor [.ref (X.2.2 a0), .int a1, .int a2] M r M := by
  intro sz
  refine K_of (Qc := (fun sz => QI X 0 r M sz)) (own := RX4) (lv0 := [(0, .ref (X.2.2 a0)), (1, .int a1), (2, .int a2)]) (by decide +kernel) rfl (Nat.le_of_ble_eq_true rfl) rfl (fun p e s m args below meth c S => ?_) sz
  · unfold f_X4_ofVisitor at he
    refine z_aload_n S dX4_ofVisitor_0 rfl 0 rfl ?_
    refine z_getF (j := (a0 + 2)) S fo_RX4_15 2 rfl rfl h_a0 dX4_ofVisitor_1 ?_
    refine z_iload_n S dX4_ofVisitor_4 rfl 1 rfl ?_
    refine z_iconst (v := 5) S dX4_ofVisitor_5 (by decide) ?_
    refine z_imul S dX4_ofVisitor_6 ?_
    refine z_iload_n S dX4_ofVisitor_7 rfl 2 rfl ?_
    refine z_iadd S dX4_ofVisitor_8 ?_
    obtain ⟨r1, h9, he⟩ := bnd he
    refine z_cNI (As := [.ref (X.2.2 (a0 + 2)), .int ((a1 * 5) + a2)]) S cn_RX4_49 (K_X9_at (okf4_2 h_a0).1 h9) ⟨rfl, rfl⟩ ⟨Nat.le_of_ble_eq_true rfl, Nat.le_of_ble_eq_true rfl⟩ ⟨Nat.le_refl _, Nat.le_refl _⟩ rfl rfl (Nat.le_of_ble_eq_true rfl) dX4_ofVisitor_9 ?_
    exact z_iret S (⟨Option.some.inj he, rfl⟩) dX4_ofVisitor_12
set_option maxRecDepth 100000 in
set_option maxHeartbeats 4000000 in
theorem K_X4_ofThing {X : Cx} {l : Launch} {M : Mm} {a0 : Nat} {a1 : Int32} {a2 : Int32} {r : Int32} (h_a0 : OK 0 a0 4) (he : f_X4_ofThing M a0 a1 a2 = some r) : KI X 0 l yX4_ofThing (wz yX4_ofThing cX4_ofThing 3 (some .int)) rm_X4_ofThing [.ref (X.2.2 a0), .int a1, .int a2] M r M := by
  intro sz
  refine K_of (Qc := (fun sz => QI X 0 r M sz)) (own := RX4) (lv0 := [(0, .ref (X.2.2 a0)), (1, .int a1), (2, .int a2)]) (by decide +kernel) rfl (Nat.le_of_ble_eq_true rfl) rfl (fun p e s m args below meth c S => ?_) sz
  · unfold f_X4_ofThing at he
    refine z_aload_n S dX4_ofThing_0 rfl 0 rfl ?_
    refine z_getF (j := (a0 + 1)) S fo_RX4_9 1 rfl rfl h_a0 dX4_ofThing_1 ?_
    refine z_iload_n S dX4_ofThing_4 rfl 1 rfl ?_
    refine z_iconst (v := 5) S dX4_ofThing_5 (by decide) ?_
    refine z_imul S dX4_ofThing_6 ?_
    refine z_iload_n S dX4_ofThing_7 rfl 2 rfl ?_
    refine z_iadd S dX4_ofThing_8 ?_
    obtain ⟨r1, h9, he⟩ := bnd he
    refine z_cNI (As := [.ref (X.2.2 (a0 + 1)), .int ((a1 * 5) + a2)]) S cn_RX4_49 (K_X9_at (okf4_1 h_a0).1 h9) ⟨rfl, rfl⟩ ⟨Nat.le_of_ble_eq_true rfl, Nat.le_of_ble_eq_true rfl⟩ ⟨Nat.le_refl _, Nat.le_refl _⟩ rfl rfl (Nat.le_of_ble_eq_true rfl) dX4_ofThing_9 ?_
    exact z_iret S (⟨Option.some.inj he, rfl⟩) dX4_ofThing_12
set_option maxRecDepth 100000 in
set_option maxHeartbeats 4000000 in
theorem K_X2_joined {X : Cx} {l : Launch} {M : Mm} {a0 : Int32} {a1 : Int32} {r : Int32}  (he : f_X2_joined M a0 a1 = r) : KI X 0 l yX2_joined (wz yX2_joined cX2_joined 4 (some .int)) rm_X2_joined [.int a0, .int a1] M r M := by
  intro sz
  refine K_of (Qc := (fun sz => QI X 0 r M sz)) (own := RX2) (lv0 := [(0, .int a0), (1, .int a1)]) (by decide +kernel) rfl (Nat.le_of_ble_eq_true rfl) rfl (fun p e s m args below meth c S => ?_) sz
  · unfold f_X2_joined at he
    refine z_iload_n S dX2_joined_0 rfl 0 rfl ?_
    refine z_sipush (v := 1023) S dX2_joined_1 (by decide) ?_
    refine z_icmp_ne (tgt := 11) S he dX2_joined_4 (by decide) (fun he => ?_) (fun he => ?_)
    · refine z_iload_n S dX2_joined_11 rfl 1 rfl ?_
      refine z_iconst (v := 1) S dX2_joined_12 (by decide) ?_
      refine z_iand S dX2_joined_13 ?_
      refine z_istore_n (lv' := [(0, .int a0), (1, .int a1), (2, .int (a1 &&& 1))]) S [1, 2, 0] dX2_joined_14 rfl (by decide) rfl ?_
      refine z_iload_n S dX2_joined_15 rfl 1 rfl ?_
      refine z_iconst (v := 1) S dX2_joined_16 (by decide) ?_
      refine z_ishr S dX2_joined_17 ?_
      refine z_istore_n (lv' := [(0, .int a0), (2, .int (a1 &&& 1)), (3, .int (a1 >>> (1 &&& 31)))]) S [1, 3, 0] dX2_joined_18 rfl (by decide) rfl ?_
      refine z_iload_n S dX2_joined_19 rfl 0 rfl ?_
      refine z_sipush (v := 1025) S dX2_joined_20 (by decide) ?_
      refine z_icmp_ne (tgt := 32) S he dX2_joined_23 (by decide) (fun he => ?_) (fun he => ?_)
      · refine z_iload_n S dX2_joined_32 rfl 2 rfl ?_
        refine z_iload_n S dX2_joined_33 rfl 1 rfl ?_
        refine z_bipush (v := (-2)) S dX2_joined_34 (by decide) ?_
        refine z_ior S dX2_joined_36 ?_
        refine z_iand S dX2_joined_37 ?_
        exact z_iret S (⟨he, rfl⟩) dX2_joined_38
      · refine z_iload_n S dX2_joined_26 rfl 2 rfl ?_
        refine z_iload_n S dX2_joined_27 rfl 1 rfl ?_
        refine z_ior S dX2_joined_28 ?_
        refine z_goto (tgt := 38) S dX2_joined_29 (by decide) ?_
        exact z_iret S (⟨he, rfl⟩) dX2_joined_38
    · refine z_iload_n S dX2_joined_7 rfl 1 rfl ?_
      refine z_iconst (v := 1) S dX2_joined_8 (by decide) ?_
      refine z_ixor S dX2_joined_9 ?_
      exact z_iret S (⟨he, rfl⟩) dX2_joined_10
set_option maxRecDepth 100000 in
set_option maxHeartbeats 4000000 in
theorem p_X2_holds_J21_165 {X : Cx} {p : Program} {l : Launch} {e : Env} {s : State} {m : MethodId} {args : Array Value} {below : List Frame} {meth : Method} {c : Code} (S : SB X 0 p s m args meth c cX2_holds 10 (some .boolean) RX2) {M : Mm} {r : Bool} {v0 : Nat} {v1 : Int32} {v3 : Int32} {v6 : Int32} {v7 : Int32} {t0 : Int32} {t1 : Int32} {x : (Int32 × Int32 × Int32 × Int32) ⊕ Int32} (h_v0 : OK 0 v0 2) (he : f_X2_holds_J21_165 M v0 v1 v3 v6 v7 t0 t1 = some x) (hc : ∀ b, x = .inl b → Z X 0 p l e rm_X2_holds s m args below meth c 0 0 (MQ below (QI X 0 (bI r) M s.heap.size) args s 0 0 (AA X 0 s.heap.size)) 10 M 21 [(0, .ref (X.2.2 v0)), (1, .int v1), (3, .int v3), (4, .int b.1), (5, .int b.2.1), (6, .int b.2.2.1), (7, .int b.2.2.2)] []) (hx : ∀ b, x = .inr b → Z X 0 p l e rm_X2_holds s m args below meth c 0 0 (MQ below (QI X 0 (bI r) M s.heap.size) args s 0 0 (AA X 0 s.heap.size)) 10 M 217 [(4, .int b)] []) : Z X 0 p l e rm_X2_holds s m args below meth c 0 0 (MQ below (QI X 0 (bI r) M s.heap.size) args s 0 0 (AA X 0 s.heap.size)) 10 M 165 [(0, .ref (X.2.2 v0)), (1, .int v1), (3, .int v3), (6, .int v6), (7, .int v7)] [.int t0, .int t1] := by
  unfold f_X2_holds_J21_165 at he
  refine z_ior S dX2_holds_165 ?_
  refine z_istore (lv' := [(0, .ref (X.2.2 v0)), (1, .int v1), (3, .int v3), (4, .int (t1 ||| t0)), (6, .int v6), (7, .int v7)]) S [1, 2, 3, 0, 4, 5] dX2_holds_166 (by decide) rfl ?_
  refine z_iconst (v := 0) S dX2_holds_168 (by decide) ?_
  refine z_istore (lv' := [(0, .ref (X.2.2 v0)), (1, .int v1), (3, .int v3), (4, .int (t1 ||| t0)), (5, .int 0), (6, .int v6), (7, .int v7)]) S [1, 2, 3, 4, 0, 5, 6] dX2_holds_169 (by decide) rfl ?_
  refine z_goto (tgt := 211) S dX2_holds_171 (by decide) ?_
  refine z_iinc (v := (v7 + 1)) (lv' := [(0, .ref (X.2.2 v0)), (1, .int v1), (3, .int v3), (4, .int (t1 ||| t0)), (5, .int 0), (6, .int v6), (7, .int (v7 + 1))]) S [1, 2, 3, 4, 5, 6, 0] 6 dX2_holds_211 rfl (by rfl) (by decide) rfl ?_
  refine z_goto (tgt := 21) S dX2_holds_214 (by decide) ?_
  refine z_lv (ks := [0, 1, 2, 3, 4, 5, 6]) rfl ?_
  exact hc _ (Option.some.inj he).symm
set_option maxRecDepth 100000 in
set_option maxHeartbeats 4000000 in
theorem p_X2_holds_J21_149 {X : Cx} {p : Program} {l : Launch} {e : Env} {s : State} {m : MethodId} {args : Array Value} {below : List Frame} {meth : Method} {c : Code} (S : SB X 0 p s m args meth c cX2_holds 10 (some .boolean) RX2) {M : Mm} {r : Bool} {v0 : Nat} {v1 : Int32} {v3 : Int32} {v4 : Int32} {v6 : Int32} {v7 : Int32} {t0 : Int32} {x : (Int32 × Int32 × Int32 × Int32) ⊕ Int32} (h_v0 : OK 0 v0 2) (he : f_X2_holds_J21_149 M v0 v1 v3 v4 v6 v7 t0 = some x) (hc : ∀ b, x = .inl b → Z X 0 p l e rm_X2_holds s m args below meth c 0 0 (MQ below (QI X 0 (bI r) M s.heap.size) args s 0 0 (AA X 0 s.heap.size)) 10 M 21 [(0, .ref (X.2.2 v0)), (1, .int v1), (3, .int v3), (4, .int b.1), (5, .int b.2.1), (6, .int b.2.2.1), (7, .int b.2.2.2)] []) (hx : ∀ b, x = .inr b → Z X 0 p l e rm_X2_holds s m args below meth c 0 0 (MQ below (QI X 0 (bI r) M s.heap.size) args s 0 0 (AA X 0 s.heap.size)) 10 M 217 [(4, .int b)] []) : Z X 0 p l e rm_X2_holds s m args below meth c 0 0 (MQ below (QI X 0 (bI r) M s.heap.size) args s 0 0 (AA X 0 s.heap.size)) 10 M 149 [(0, .ref (X.2.2 v0)), (1, .int v1), (3, .int v3), (4, .int v4), (6, .int v6), (7, .int v7)] [.int t0] := by
  unfold f_X2_holds_J21_149 at he
  refine z_istore (lv' := [(0, .ref (X.2.2 v0)), (1, .int v1), (3, .int v3), (4, .int v4), (6, .int v6), (7, .int v7), (9, .int t0)]) S [1, 2, 3, 4, 5, 6, 0] dX2_holds_149 (by decide) rfl ?_
  refine z_iload S dX2_holds_151 3 rfl ?_
  refine z_iconst (v := 1) S dX2_holds_153 (by decide) ?_
  refine z_ishl S dX2_holds_154 ?_
  refine z_iload S dX2_holds_155 6 rfl ?_
  refine z_if_eq (tgt := 164) S he dX2_holds_157 (by decide) (fun he => ?_) (fun he => ?_)
  · refine z_iconst (v := 0) S dX2_holds_164 (by decide) ?_
    refine z_lv (ks := [0, 1, 2, 4, 5]) rfl ?_
    exact p_X2_holds_J21_165 S h_v0 he hc hx
  · refine z_iconst (v := 1) S dX2_holds_160 (by decide) ?_
    refine z_goto (tgt := 165) S dX2_holds_161 (by decide) ?_
    refine z_lv (ks := [0, 1, 2, 4, 5]) rfl ?_
    exact p_X2_holds_J21_165 S h_v0 he hc hx
set_option maxRecDepth 100000 in
set_option maxHeartbeats 4000000 in
theorem p_X2_holds_J21_114 {X : Cx} {p : Program} {l : Launch} {e : Env} {s : State} {m : MethodId} {args : Array Value} {below : List Frame} {meth : Method} {c : Code} (S : SB X 0 p s m args meth c cX2_holds 10 (some .boolean) RX2) {M : Mm} {r : Bool} {v0 : Nat} {v1 : Int32} {v3 : Int32} {v4 : Int32} {v5 : Int32} {v6 : Int32} {v7 : Int32} {v8 : Int32} {x : (Int32 × Int32 × Int32 × Int32) ⊕ Int32} (h_v0 : OK 0 v0 2) (he : f_X2_holds_J21_114 M v0 v1 v3 v4 v5 v6 v7 v8 = some x) (hc : ∀ b, x = .inl b → Z X 0 p l e rm_X2_holds s m args below meth c 0 0 (MQ below (QI X 0 (bI r) M s.heap.size) args s 0 0 (AA X 0 s.heap.size)) 10 M 21 [(0, .ref (X.2.2 v0)), (1, .int v1), (3, .int v3), (4, .int b.1), (5, .int b.2.1), (6, .int b.2.2.1), (7, .int b.2.2.2)] []) (hx : ∀ b, x = .inr b → Z X 0 p l e rm_X2_holds s m args below meth c 0 0 (MQ below (QI X 0 (bI r) M s.heap.size) args s 0 0 (AA X 0 s.heap.size)) 10 M 217 [(4, .int b)] []) : Z X 0 p l e rm_X2_holds s m args below meth c 0 0 (MQ below (QI X 0 (bI r) M s.heap.size) args s 0 0 (AA X 0 s.heap.size)) 10 M 114 [(0, .ref (X.2.2 v0)), (1, .int v1), (3, .int v3), (4, .int v4), (5, .int v5), (6, .int v6), (7, .int v7), (8, .int v8)] [] := by
  unfold f_X2_holds_J21_114 at he
  refine z_iload S dX2_holds_114 7 rfl ?_
  refine z_sipush (v := 1021) S dX2_holds_116 (by decide) ?_
  refine z_icmp_ne (tgt := 137) S he dX2_holds_119 (by decide) (fun he => ?_) (fun he => ?_)
  · refine z_iload S dX2_holds_137 5 rfl ?_
    refine z_iload S dX2_holds_139 4 rfl ?_
    refine z_icmp_le (tgt := 148) S he dX2_holds_141 (by decide) (fun he => ?_) (fun he => ?_)
    · refine z_iconst (v := 0) S dX2_holds_148 (by decide) ?_
      refine z_lv (ks := [0, 1, 2, 3, 5, 6]) rfl ?_
      exact p_X2_holds_J21_149 S h_v0 he hc hx
    · refine z_iconst (v := 1) S dX2_holds_144 (by decide) ?_
      refine z_goto (tgt := 149) S dX2_holds_145 (by decide) ?_
      refine z_lv (ks := [0, 1, 2, 3, 5, 6]) rfl ?_
      exact p_X2_holds_J21_149 S h_v0 he hc hx
  · refine z_iload S dX2_holds_122 5 rfl ?_
    refine z_iload S dX2_holds_124 4 rfl ?_
    refine z_icmp_ge (tgt := 133) S he dX2_holds_126 (by decide) (fun he => ?_) (fun he => ?_)
    · refine z_iconst (v := 0) S dX2_holds_133 (by decide) ?_
      refine z_goto (tgt := 149) S dX2_holds_134 (by decide) ?_
      refine z_lv (ks := [0, 1, 2, 3, 5, 6]) rfl ?_
      exact p_X2_holds_J21_149 S h_v0 he hc hx
    · refine z_iconst (v := 1) S dX2_holds_129 (by decide) ?_
      refine z_goto (tgt := 149) S dX2_holds_130 (by decide) ?_
      refine z_lv (ks := [0, 1, 2, 3, 5, 6]) rfl ?_
      exact p_X2_holds_J21_149 S h_v0 he hc hx
set_option maxRecDepth 100000 in
set_option maxHeartbeats 4000000 in
theorem p_X2_holds_J21_74 {X : Cx} {p : Program} {l : Launch} {e : Env} {s : State} {m : MethodId} {args : Array Value} {below : List Frame} {meth : Method} {c : Code} (S : SB X 0 p s m args meth c cX2_holds 10 (some .boolean) RX2) {M : Mm} {r : Bool} {v0 : Nat} {v1 : Int32} {v3 : Int32} {v4 : Int32} {v6 : Int32} {v7 : Int32} {t0 : Int32} {t1 : Int32} {x : (Int32 × Int32 × Int32 × Int32) ⊕ Int32} (h_v0 : OK 0 v0 2) (he : f_X2_holds_J21_74 M v0 v1 v3 v4 v6 v7 t0 t1 = some x) (hc : ∀ b, x = .inl b → Z X 0 p l e rm_X2_holds s m args below meth c 0 0 (MQ below (QI X 0 (bI r) M s.heap.size) args s 0 0 (AA X 0 s.heap.size)) 10 M 21 [(0, .ref (X.2.2 v0)), (1, .int v1), (3, .int v3), (4, .int b.1), (5, .int b.2.1), (6, .int b.2.2.1), (7, .int b.2.2.2)] []) (hx : ∀ b, x = .inr b → Z X 0 p l e rm_X2_holds s m args below meth c 0 0 (MQ below (QI X 0 (bI r) M s.heap.size) args s 0 0 (AA X 0 s.heap.size)) 10 M 217 [(4, .int b)] []) : Z X 0 p l e rm_X2_holds s m args below meth c 0 0 (MQ below (QI X 0 (bI r) M s.heap.size) args s 0 0 (AA X 0 s.heap.size)) 10 M 74 [(0, .ref (X.2.2 v0)), (1, .int v1), (3, .int v3), (4, .int v4), (6, .int v6), (7, .int v7)] [.int t0, .int t1] := by
  unfold f_X2_holds_J21_74 at he
  refine z_iadd S dX2_holds_74 ?_
  refine z_istore (lv' := [(0, .ref (X.2.2 v0)), (1, .int v1), (3, .int v3), (4, .int v4), (5, .int (t1 + t0)), (6, .int v6), (7, .int v7)]) S [1, 2, 3, 4, 0, 5, 6] dX2_holds_75 (by decide) rfl ?_
  refine z_goto (tgt := 211) S dX2_holds_77 (by decide) ?_
  refine z_iinc (v := (v7 + 1)) (lv' := [(0, .ref (X.2.2 v0)), (1, .int v1), (3, .int v3), (4, .int v4), (5, .int (t1 + t0)), (6, .int v6), (7, .int (v7 + 1))]) S [1, 2, 3, 4, 5, 6, 0] 6 dX2_holds_211 rfl (by rfl) (by decide) rfl ?_
  refine z_goto (tgt := 21) S dX2_holds_214 (by decide) ?_
  refine z_lv (ks := [0, 1, 2, 3, 4, 5, 6]) rfl ?_
  exact hc _ (Option.some.inj he).symm
set_option maxRecDepth 100000 in
set_option maxHeartbeats 4000000 in
theorem p_X2_holds_L21 {X : Cx} {p : Program} {l : Launch} {e : Env} {s : State} {m : MethodId} {args : Array Value} {below : List Frame} {meth : Method} {c : Code} (S : SB X 0 p s m args meth c cX2_holds 10 (some .boolean) RX2) {M : Mm} {r : Bool} {v0 : Nat} {v1 : Int32} {v3 : Int32} {v4 : Int32} {v5 : Int32} {v6 : Int32} {v7 : Int32} {x : (Int32 × Int32 × Int32 × Int32) ⊕ Int32} (h_v0 : OK 0 v0 2) (he : f_X2_holds_L21 M v0 v1 v3 v4 v5 v6 v7 = some x) (hc : ∀ b, x = .inl b → Z X 0 p l e rm_X2_holds s m args below meth c 0 0 (MQ below (QI X 0 (bI r) M s.heap.size) args s 0 0 (AA X 0 s.heap.size)) 10 M 21 [(0, .ref (X.2.2 v0)), (1, .int v1), (3, .int v3), (4, .int b.1), (5, .int b.2.1), (6, .int b.2.2.1), (7, .int b.2.2.2)] []) (hx : ∀ b, x = .inr b → Z X 0 p l e rm_X2_holds s m args below meth c 0 0 (MQ below (QI X 0 (bI r) M s.heap.size) args s 0 0 (AA X 0 s.heap.size)) 10 M 217 [(4, .int b)] []) : Z X 0 p l e rm_X2_holds s m args below meth c 0 0 (MQ below (QI X 0 (bI r) M s.heap.size) args s 0 0 (AA X 0 s.heap.size)) 10 M 21 [(0, .ref (X.2.2 v0)), (1, .int v1), (3, .int v3), (4, .int v4), (5, .int v5), (6, .int v6), (7, .int v7)] [] := by
  unfold f_X2_holds_L21 at he
  refine z_iload S dX2_holds_21 6 rfl ?_
  refine z_iload_n S dX2_holds_23 rfl 2 rfl ?_
  refine z_icmp_ge (tgt := 217) S he dX2_holds_24 (by decide) (fun he => ?_) (fun he => ?_)
  · refine z_lv (ks := [3]) rfl ?_
    exact hx _ (Option.some.inj he).symm
  · refine z_aload_n S dX2_holds_27 rfl 0 rfl ?_
    refine z_getF (j := (v0 + 4)) S fo_RX2_21 4 rfl rfl h_v0 dX2_holds_28 ?_
    refine z_iload S dX2_holds_31 6 rfl ?_
    obtain ⟨r1, h9, he⟩ := bnd he
    refine z_cNI (As := [.ref (X.2.2 (v0 + 4)), .int v7]) S cn_RX2_56 (K_X9_at (okf2_4 h_v0).1 h9) ⟨rfl, rfl⟩ ⟨Nat.le_of_ble_eq_true rfl, Nat.le_of_ble_eq_true rfl⟩ ⟨Nat.le_refl _, Nat.le_refl _⟩ rfl rfl (Nat.le_of_ble_eq_true rfl) dX2_holds_33 ?_
    refine z_istore (lv' := [(0, .ref (X.2.2 v0)), (1, .int v1), (3, .int v3), (4, .int v4), (5, .int v5), (6, .int v6), (7, .int v7), (8, .int r1)]) S [1, 2, 3, 4, 5, 6, 7, 0] dX2_holds_36 (by decide) rfl ?_
    refine z_iload S dX2_holds_38 7 rfl ?_
    refine z_sipush (v := 1010) S dX2_holds_40 (by decide) ?_
    refine z_icmp_ge (tgt := 80) S he dX2_holds_43 (by decide) (fun he => ?_) (fun he => ?_)
    · refine z_iload S dX2_holds_80 7 rfl ?_
      refine z_sipush (v := 1020) S dX2_holds_82 (by decide) ?_
      refine z_icmp_ne (tgt := 98) S he dX2_holds_85 (by decide) (fun he => ?_) (fun he => ?_)
      · refine z_iload S dX2_holds_98 7 rfl ?_
        refine z_sipush (v := 1021) S dX2_holds_100 (by decide) ?_
        refine z_icmp_eq (tgt := 114) S he dX2_holds_103 (by decide) (fun he => ?_) (fun he => ?_)
        · exact p_X2_holds_J21_114 S h_v0 he hc hx
        · refine z_iload S dX2_holds_106 7 rfl ?_
          refine z_sipush (v := 1022) S dX2_holds_108 (by decide) ?_
          refine z_icmp_ne (tgt := 174) S he dX2_holds_111 (by decide) (fun he => ?_) (fun he => ?_)
          · refine z_iload S dX2_holds_174 7 rfl ?_
            refine z_sipush (v := 1023) S dX2_holds_176 (by decide) ?_
            refine z_icmp_lt (tgt := 194) S he dX2_holds_179 (by decide) (fun he => ?_) (fun he => ?_)
            · refine z_iload S dX2_holds_194 3 rfl ?_
              refine z_iconst (v := 1) S dX2_holds_196 (by decide) ?_
              refine z_ishl S dX2_holds_197 ?_
              refine z_iload_n S dX2_holds_198 rfl 1 rfl ?_
              refine z_iload S dX2_holds_199 7 rfl ?_
              refine z_sipush (v := 1010) S dX2_holds_201 (by decide) ?_
              refine z_isub S dX2_holds_204 ?_
              refine z_ishr S dX2_holds_205 ?_
              refine z_iconst (v := 1) S dX2_holds_206 (by decide) ?_
              refine z_iand S dX2_holds_207 ?_
              refine z_ior S dX2_holds_208 ?_
              obtain ⟨x2, ex2, he⟩ := bnd he
              rw [Option.some.inj ex2]
              refine z_istore (lv' := [(0, .ref (X.2.2 v0)), (1, .int v1), (3, .int v3), (4, .int x2), (5, .int v5), (6, .int v6), (7, .int v7)]) S [1, 2, 3, 0, 4, 5, 6] dX2_holds_209 (by decide) rfl ?_
              refine z_iinc (v := (v7 + 1)) (lv' := [(0, .ref (X.2.2 v0)), (1, .int v1), (3, .int v3), (4, .int x2), (5, .int v5), (6, .int v6), (7, .int (v7 + 1))]) S [1, 2, 3, 4, 5, 6, 0] 6 dX2_holds_211 rfl (by rfl) (by decide) rfl ?_
              refine z_goto (tgt := 21) S dX2_holds_214 (by decide) ?_
              refine z_lv (ks := [0, 1, 2, 3, 4, 5, 6]) rfl ?_
              exact hc _ (Option.some.inj he).symm
            · refine z_iload S dX2_holds_182 7 rfl ?_
              refine z_iload S dX2_holds_184 3 rfl ?_
              refine z_cSI (As := [.int r1, .int v4]) S cs_RX2_69 (K_X2_joined  rfl) ⟨rfl, rfl⟩ ⟨Nat.le_of_ble_eq_true rfl, Nat.le_of_ble_eq_true rfl⟩ ⟨Nat.le_refl _, Nat.le_refl _⟩ rfl rfl (Nat.le_of_ble_eq_true rfl) dX2_holds_186 ?_
              refine z_istore (lv' := [(0, .ref (X.2.2 v0)), (1, .int v1), (3, .int v3), (4, .int (f_X2_joined M r1 v4)), (5, .int v5), (6, .int v6), (7, .int v7)]) S [1, 2, 3, 0, 4, 5, 6] dX2_holds_189 (by decide) rfl ?_
              refine z_goto (tgt := 211) S dX2_holds_191 (by decide) ?_
              refine z_iinc (v := (v7 + 1)) (lv' := [(0, .ref (X.2.2 v0)), (1, .int v1), (3, .int v3), (4, .int (f_X2_joined M r1 v4)), (5, .int v5), (6, .int v6), (7, .int (v7 + 1))]) S [1, 2, 3, 4, 5, 6, 0] 6 dX2_holds_211 rfl (by rfl) (by decide) rfl ?_
              refine z_goto (tgt := 21) S dX2_holds_214 (by decide) ?_
              refine z_lv (ks := [0, 1, 2, 3, 4, 5, 6]) rfl ?_
              exact hc _ (Option.some.inj he).symm
          · exact p_X2_holds_J21_114 S h_v0 he hc hx
      · refine z_iload S dX2_holds_88 4 rfl ?_
        refine z_istore (lv' := [(0, .ref (X.2.2 v0)), (1, .int v1), (3, .int v3), (4, .int v4), (6, .int v5), (7, .int v7)]) S [1, 2, 3, 4, 0, 6] dX2_holds_90 (by decide) rfl ?_
        refine z_iconst (v := 0) S dX2_holds_92 (by decide) ?_
        refine z_istore (lv' := [(0, .ref (X.2.2 v0)), (1, .int v1), (3, .int v3), (4, .int v4), (5, .int 0), (6, .int v5), (7, .int v7)]) S [1, 2, 3, 4, 0, 5, 6] dX2_holds_93 (by decide) rfl ?_
        refine z_goto (tgt := 211) S dX2_holds_95 (by decide) ?_
        refine z_iinc (v := (v7 + 1)) (lv' := [(0, .ref (X.2.2 v0)), (1, .int v1), (3, .int v3), (4, .int v4), (5, .int 0), (6, .int v5), (7, .int (v7 + 1))]) S [1, 2, 3, 4, 5, 6, 0] 6 dX2_holds_211 rfl (by rfl) (by decide) rfl ?_
        refine z_goto (tgt := 21) S dX2_holds_214 (by decide) ?_
        refine z_lv (ks := [0, 1, 2, 3, 4, 5, 6]) rfl ?_
        exact hc _ (Option.some.inj he).symm
    · refine z_iload S dX2_holds_46 4 rfl ?_
      refine z_iload S dX2_holds_48 7 rfl ?_
      refine z_sipush (v := 1000) S dX2_holds_50 (by decide) ?_
      refine z_icmp_ge (tgt := 61) S he dX2_holds_53 (by decide) (fun he => ?_) (fun he => ?_)
      · refine z_aload_n S dX2_holds_61 rfl 0 rfl ?_
        refine z_getF (j := (v0 + 5)) S fo_RX2_24 5 rfl rfl h_v0 dX2_holds_62 ?_
        refine z_iload S dX2_holds_65 7 rfl ?_
        refine z_sipush (v := 1000) S dX2_holds_67 (by decide) ?_
        refine z_isub S dX2_holds_70 ?_
        obtain ⟨r3, h9, he⟩ := bnd he
        refine z_cNI (As := [.ref (X.2.2 (v0 + 5)), .int (r1 - 1000)]) S cn_RX2_56 (K_X9_at (okf2_5 h_v0).1 h9) ⟨rfl, rfl⟩ ⟨Nat.le_of_ble_eq_true rfl, Nat.le_of_ble_eq_true rfl⟩ ⟨Nat.le_refl _, Nat.le_refl _⟩ rfl rfl (Nat.le_of_ble_eq_true rfl) dX2_holds_71 ?_
        refine z_lv (ks := [0, 1, 2, 3, 5, 6]) rfl ?_
        exact p_X2_holds_J21_74 S h_v0 he hc hx
      · refine z_iload S dX2_holds_56 7 rfl ?_
        refine z_goto (tgt := 74) S dX2_holds_58 (by decide) ?_
        refine z_lv (ks := [0, 1, 2, 3, 5, 6]) rfl ?_
        exact p_X2_holds_J21_74 S h_v0 he hc hx
set_option maxRecDepth 100000 in
set_option maxHeartbeats 4000000 in
theorem p_X2_holds_J10 {X : Cx} {p : Program} {l : Launch} {e : Env} {s : State} {m : MethodId} {args : Array Value} {below : List Frame} {meth : Method} {c : Code} (S : SB X 0 p s m args meth c cX2_holds 10 (some .boolean) RX2) {M : Mm} {r : Bool} {v0 : Nat} {v1 : Int32} {v2 : Int32} {v3 : Int32} {t0 : Int32} (h_v0 : OK 0 v0 2) (he : f_X2_holds_J10 M v0 v1 v2 v3 t0 = some r) : Z X 0 p l e rm_X2_holds s m args below meth c 0 0 (MQ below (QI X 0 (bI r) M s.heap.size) args s 0 0 (AA X 0 s.heap.size)) 10 M 10 [(0, .ref (X.2.2 v0)), (1, .int v1), (2, .int v2), (3, .int v3)] [.int t0] := by
  unfold f_X2_holds_J10 at he
  refine z_istore (lv' := [(0, .ref (X.2.2 v0)), (1, .int v1), (2, .int v2), (3, .int v3), (4, .int t0)]) S [1, 2, 3, 4, 0] dX2_holds_10 (by decide) rfl ?_
  refine z_iconst (v := 0) S dX2_holds_12 (by decide) ?_
  refine z_istore (lv' := [(0, .ref (X.2.2 v0)), (1, .int v1), (2, .int v2), (3, .int v3), (4, .int t0), (5, .int 0)]) S [1, 2, 3, 4, 5, 0] dX2_holds_13 (by decide) rfl ?_
  refine z_iconst (v := 0) S dX2_holds_15 (by decide) ?_
  refine z_istore (lv' := [(0, .ref (X.2.2 v0)), (1, .int v1), (2, .int v2), (3, .int v3), (4, .int t0), (5, .int 0), (6, .int 0)]) S [1, 2, 3, 4, 5, 6, 0] dX2_holds_16 (by decide) rfl ?_
  refine z_iload_n S dX2_holds_18 rfl 2 rfl ?_
  refine z_istore (lv' := [(0, .ref (X.2.2 v0)), (1, .int v1), (3, .int v3), (4, .int t0), (5, .int 0), (6, .int 0), (7, .int v2)]) S [1, 2, 4, 5, 6, 7, 0] dX2_holds_19 (by decide) rfl ?_
  obtain ⟨e_4, hl, he⟩ := bnd he
  have hX : Z X 0 p l e rm_X2_holds s m args below meth c 0 0 (MQ below (QI X 0 (bI r) M s.heap.size) args s 0 0 (AA X 0 s.heap.size)) 10 M 217 [(4, .int e_4)] [] := by
    refine z_iload S dX2_holds_217 0 rfl ?_
    refine z_iconst (v := 1) S dX2_holds_219 (by decide) ?_
    refine z_iand S dX2_holds_220 ?_
    refine z_iconst (v := 1) S dX2_holds_221 (by decide) ?_
    refine z_icmp_ne (tgt := 229) S he dX2_holds_222 (by decide) (fun he => ?_) (fun he => ?_)
    · refine z_iconst (v := 0) S dX2_holds_229 (by decide) ?_
      exact z_zret0 S (⟨Option.some.inj he, rfl⟩) dX2_holds_230
    · refine z_iconst (v := 1) S dX2_holds_225 (by decide) ?_
      refine z_goto (tgt := 230) S dX2_holds_226 (by decide) ?_
      exact z_zret1 S (⟨Option.some.inj he, rfl⟩) dX2_holds_230
  exact loopZ (Zh := (fun a_4 => Z X 0 p l e rm_X2_holds s m args below meth c 0 0 (MQ below (QI X 0 (bI r) M s.heap.size) args s 0 0 (AA X 0 s.heap.size)) 10 M 21 [(0, .ref (X.2.2 v0)), (1, .int v1), (3, .int v3), (4, .int a_4.1), (5, .int a_4.2.1), (6, .int a_4.2.2.1), (7, .int a_4.2.2.2)] [])) (fun a_4 x hb hc hr => p_X2_holds_L21 S h_v0 hb hc (fun b hxe => by rw [hr b hxe]; exact hX)) FU _ hl
set_option maxRecDepth 100000 in
set_option maxHeartbeats 4000000 in
theorem K_X2_holds {X : Cx} {l : Launch} {M : Mm} {a0 : Nat} {a1 : Int32} {a2 : Int32} {a3 : Int32} {r : Bool} (h_a0 : OK 0 a0 2) (he : f_X2_holds M a0 a1 a2 a3 = some r) : KI X 0 l yX2_holds (wz yX2_holds cX2_holds 10 (some .boolean)) rm_X2_holds [.ref (X.2.2 a0), .int a1, .int a2, .int a3] M (bI r) M := by
  intro sz
  refine K_of (Qc := (fun sz => QI X 0 (bI r) M sz)) (own := RX2) (lv0 := [(0, .ref (X.2.2 a0)), (1, .int a1), (2, .int a2), (3, .int a3)]) (by decide +kernel) rfl (Nat.le_of_ble_eq_true rfl) rfl (fun p e s m args below meth c S => ?_) sz
  · unfold f_X2_holds at he
    refine z_iload_n S dX2_holds_0 rfl 2 rfl ?_
    refine z_iload_n S dX2_holds_1 rfl 3 rfl ?_
    refine z_icmp_ge (tgt := 9) S he dX2_holds_2 (by decide) (fun he => ?_) (fun he => ?_)
    · refine z_iconst (v := 1) S dX2_holds_9 (by decide) ?_
      exact p_X2_holds_J10 S h_a0 he
    · refine z_iconst (v := 0) S dX2_holds_5 (by decide) ?_
      refine z_goto (tgt := 10) S dX2_holds_6 (by decide) ?_
      exact p_X2_holds_J10 S h_a0 he
set_option maxRecDepth 100000 in
set_option maxHeartbeats 4000000 in
theorem p_X2_weighs_J114_157 {X : Cx} {p : Program} {l : Launch} {e : Env} {s : State} {m : MethodId} {args : Array Value} {below : List Frame} {meth : Method} {c : Code} (S : SB X 0 p s m args meth c cX2_weighs 10 (some .int) RX2) {M : Mm} {N : Mm} {r : Int32} {v0 : Nat} {v2 : Int32} {v4 : Int32} {v5 : Int32} {v6 : Int32} {v7 : Int32} {v9 : Int32} {x : (Int32 × Int32 × Int32) ⊕ Int32} (h_v0 : OK 0 v0 2) (he : f_X2_weighs_J114_157 M v0 v2 v4 v5 v6 v7 v9 = some x) (hc : ∀ b, x = .inl b → Z X 0 p l e rm_X2_weighs s m args below meth c 0 0 (MQ below (QI X 0 r N s.heap.size) args s 0 0 (AA X 0 s.heap.size)) 10 M 114 [(0, .ref (X.2.2 v0)), (2, .int v2), (4, .int v4), (5, .int b.1), (6, .int b.2.1), (7, .int b.2.2)] []) (hx : ∀ b, x = .inr b → Z X 0 p l e rm_X2_weighs s m args below meth c 0 0 (MQ below (QI X 0 r N s.heap.size) args s 0 0 (AA X 0 s.heap.size)) 10 M 194 [(5, .int b)] []) : Z X 0 p l e rm_X2_weighs s m args below meth c 0 0 (MQ below (QI X 0 r N s.heap.size) args s 0 0 (AA X 0 s.heap.size)) 10 M 157 [(0, .ref (X.2.2 v0)), (2, .int v2), (4, .int v4), (5, .int v5), (6, .int v6), (7, .int v7), (9, .int v9)] [] := by
  unfold f_X2_weighs_J114_157 at he
  refine z_aload_n S dX2_weighs_157 rfl 0 rfl ?_
  refine z_iload S dX2_weighs_158 2 rfl ?_
  refine z_iload S dX2_weighs_160 4 rfl ?_
  refine z_iload S dX2_weighs_162 6 rfl ?_
  obtain ⟨r15, h9, he⟩ := bnd he
  refine z_cVI (As := [.int v4, .int v6, .int v9]) S cv_RX2_60 (K_X2_holds h_v0 h9) h_v0 (by decide) (q := (RX2, TX2, 7)) rfl rfl ⟨rfl, rfl⟩ ⟨Nat.le_of_ble_eq_true rfl, Nat.le_of_ble_eq_true rfl⟩ ⟨Nat.le_refl _, Nat.le_refl _⟩ rfl rfl (Nat.le_of_ble_eq_true rfl) dX2_weighs_164 ?_
  refine z_ifb_eq (tgt := 184) S he dX2_weighs_167 (by decide) (fun he => ?_) (fun he => ?_)
  · refine z_iload S dX2_weighs_184 6 rfl ?_
    refine z_istore (lv' := [(0, .ref (X.2.2 v0)), (2, .int v2), (4, .int v4), (5, .int v5), (6, .int v9), (7, .int v7)]) S [1, 2, 3, 4, 0, 5] dX2_weighs_186 (by decide) rfl ?_
    refine z_iinc (v := (v7 + 1)) (lv' := [(0, .ref (X.2.2 v0)), (2, .int v2), (4, .int v4), (5, .int v5), (6, .int v9), (7, .int (v7 + 1))]) S [1, 2, 3, 4, 5, 0] 5 dX2_weighs_188 rfl (by rfl) (by decide) rfl ?_
    refine z_goto (tgt := 114) S dX2_weighs_191 (by decide) ?_
    refine z_lv (ks := [0, 1, 2, 3, 4, 5]) rfl ?_
    exact hc _ (Option.some.inj he).symm
  · refine z_iload S dX2_weighs_170 3 rfl ?_
    refine z_aload_n S dX2_weighs_172 rfl 0 rfl ?_
    refine z_getF (j := (v0 + 1)) S fo_RX2_9 1 rfl rfl h_v0 dX2_weighs_173 ?_
    refine z_iload S dX2_weighs_176 5 rfl ?_
    obtain ⟨r16, h9, he⟩ := bnd he
    refine z_cNI (As := [.ref (X.2.2 (v0 + 1)), .int v7]) S cn_RX2_56 (K_X9_at (okf2_1 h_v0).1 h9) ⟨rfl, rfl⟩ ⟨Nat.le_of_ble_eq_true rfl, Nat.le_of_ble_eq_true rfl⟩ ⟨Nat.le_refl _, Nat.le_refl _⟩ rfl rfl (Nat.le_of_ble_eq_true rfl) dX2_weighs_178 ?_
    refine z_iadd S dX2_weighs_181 ?_
    refine z_istore (lv' := [(0, .ref (X.2.2 v0)), (2, .int v2), (4, .int v4), (5, .int (v5 + r16)), (7, .int v7), (9, .int v9)]) S [1, 2, 3, 0, 5, 6] dX2_weighs_182 (by decide) rfl ?_
    refine z_iload S dX2_weighs_184 5 rfl ?_
    refine z_istore (lv' := [(0, .ref (X.2.2 v0)), (2, .int v2), (4, .int v4), (5, .int (v5 + r16)), (6, .int v9), (7, .int v7)]) S [1, 2, 3, 4, 0, 5] dX2_weighs_186 (by decide) rfl ?_
    refine z_iinc (v := (v7 + 1)) (lv' := [(0, .ref (X.2.2 v0)), (2, .int v2), (4, .int v4), (5, .int (v5 + r16)), (6, .int v9), (7, .int (v7 + 1))]) S [1, 2, 3, 4, 5, 0] 5 dX2_weighs_188 rfl (by rfl) (by decide) rfl ?_
    refine z_goto (tgt := 114) S dX2_weighs_191 (by decide) ?_
    refine z_lv (ks := [0, 1, 2, 3, 4, 5]) rfl ?_
    exact hc _ (Option.some.inj he).symm
set_option maxRecDepth 100000 in
set_option maxHeartbeats 4000000 in
theorem p_X2_weighs_L114 {X : Cx} {p : Program} {l : Launch} {e : Env} {s : State} {m : MethodId} {args : Array Value} {below : List Frame} {meth : Method} {c : Code} (S : SB X 0 p s m args meth c cX2_weighs 10 (some .int) RX2) {M : Mm} {N : Mm} {r : Int32} {v0 : Nat} {v2 : Int32} {v4 : Int32} {v5 : Int32} {v6 : Int32} {v7 : Int32} {x : (Int32 × Int32 × Int32) ⊕ Int32} (h_v0 : OK 0 v0 2) (he : f_X2_weighs_L114 M v0 v2 v4 v5 v6 v7 = some x) (hc : ∀ b, x = .inl b → Z X 0 p l e rm_X2_weighs s m args below meth c 0 0 (MQ below (QI X 0 r N s.heap.size) args s 0 0 (AA X 0 s.heap.size)) 10 M 114 [(0, .ref (X.2.2 v0)), (2, .int v2), (4, .int v4), (5, .int b.1), (6, .int b.2.1), (7, .int b.2.2)] []) (hx : ∀ b, x = .inr b → Z X 0 p l e rm_X2_weighs s m args below meth c 0 0 (MQ below (QI X 0 r N s.heap.size) args s 0 0 (AA X 0 s.heap.size)) 10 M 194 [(5, .int b)] []) : Z X 0 p l e rm_X2_weighs s m args below meth c 0 0 (MQ below (QI X 0 r N s.heap.size) args s 0 0 (AA X 0 s.heap.size)) 10 M 114 [(0, .ref (X.2.2 v0)), (2, .int v2), (4, .int v4), (5, .int v5), (6, .int v6), (7, .int v7)] [] := by
  unfold f_X2_weighs_L114 at he
  refine z_iload S dX2_weighs_114 5 rfl ?_
  refine z_aload_n S dX2_weighs_116 rfl 0 rfl ?_
  refine z_getI S fo_RX2_27 rfl h_v0 dX2_weighs_117 ?_
  refine z_icmp_ge (tgt := 194) S he dX2_weighs_120 (by decide) (fun he => ?_) (fun he => ?_)
  · refine z_lv (ks := [3]) rfl ?_
    exact hx _ (Option.some.inj he).symm
  · refine z_aload_n S dX2_weighs_123 rfl 0 rfl ?_
    refine z_getF (j := (v0 + 2)) S fo_RX2_15 2 rfl rfl h_v0 dX2_weighs_124 ?_
    refine z_iload S dX2_weighs_127 5 rfl ?_
    obtain ⟨r13, h9, he⟩ := bnd he
    refine z_cNI (As := [.ref (X.2.2 (v0 + 2)), .int v7]) S cn_RX2_56 (K_X9_at (okf2_2 h_v0).1 h9) ⟨rfl, rfl⟩ ⟨Nat.le_of_ble_eq_true rfl, Nat.le_of_ble_eq_true rfl⟩ ⟨Nat.le_refl _, Nat.le_refl _⟩ rfl rfl (Nat.le_of_ble_eq_true rfl) dX2_weighs_129 ?_
    refine z_istore (lv' := [(0, .ref (X.2.2 v0)), (2, .int v2), (4, .int v4), (5, .int v5), (6, .int v6), (7, .int v7), (8, .int r13)]) S [1, 2, 3, 4, 5, 6, 0] dX2_weighs_132 (by decide) rfl ?_
    refine z_aload_n S dX2_weighs_134 rfl 0 rfl ?_
    refine z_getF (j := (v0 + 3)) S fo_RX2_18 3 rfl rfl h_v0 dX2_weighs_135 ?_
    refine z_iload S dX2_weighs_138 5 rfl ?_
    obtain ⟨r14, h9, he⟩ := bnd he
    refine z_cNI (As := [.ref (X.2.2 (v0 + 3)), .int v7]) S cn_RX2_56 (K_X9_at (okf2_3 h_v0).1 h9) ⟨rfl, rfl⟩ ⟨Nat.le_of_ble_eq_true rfl, Nat.le_of_ble_eq_true rfl⟩ ⟨Nat.le_refl _, Nat.le_refl _⟩ rfl rfl (Nat.le_of_ble_eq_true rfl) dX2_weighs_140 ?_
    refine z_istore (lv' := [(0, .ref (X.2.2 v0)), (2, .int v2), (4, .int v4), (5, .int v5), (6, .int v6), (7, .int v7), (8, .int r13), (9, .int r14)]) S [1, 2, 3, 4, 5, 6, 7, 0] dX2_weighs_143 (by decide) rfl ?_
    refine z_iload S dX2_weighs_145 6 rfl ?_
    refine z_iconst (v := (-1)) S dX2_weighs_147 (by decide) ?_
    refine z_icmp_eq (tgt := 157) S he dX2_weighs_148 (by decide) (fun he => ?_) (fun he => ?_)
    · refine z_lv (ks := [0, 1, 2, 3, 4, 5, 7]) rfl ?_
      exact p_X2_weighs_J114_157 S h_v0 he hc hx
    · refine z_iload S dX2_weighs_151 6 rfl ?_
      refine z_iload_n S dX2_weighs_153 rfl 1 rfl ?_
      refine z_icmp_ne (tgt := 184) S he dX2_weighs_154 (by decide) (fun he => ?_) (fun he => ?_)
      · refine z_iload S dX2_weighs_184 7 rfl ?_
        refine z_istore (lv' := [(0, .ref (X.2.2 v0)), (2, .int v2), (4, .int v4), (5, .int v5), (6, .int r14), (7, .int v7)]) S [1, 2, 3, 4, 0, 5] dX2_weighs_186 (by decide) rfl ?_
        refine z_iinc (v := (v7 + 1)) (lv' := [(0, .ref (X.2.2 v0)), (2, .int v2), (4, .int v4), (5, .int v5), (6, .int r14), (7, .int (v7 + 1))]) S [1, 2, 3, 4, 5, 0] 5 dX2_weighs_188 rfl (by rfl) (by decide) rfl ?_
        refine z_goto (tgt := 114) S dX2_weighs_191 (by decide) ?_
        refine z_lv (ks := [0, 1, 2, 3, 4, 5]) rfl ?_
        exact hc _ (Option.some.inj he).symm
      · refine z_lv (ks := [0, 1, 2, 3, 4, 5, 7]) rfl ?_
        exact p_X2_weighs_J114_157 S h_v0 he hc hx
set_option maxRecDepth 100000 in
set_option maxHeartbeats 4000000 in
theorem K_X2_weighs {X : Cx} {l : Launch} {M : Mm} {a0 : Nat} {a1 : Nat} {a2 : Int32} {a3 : Int32} {r : Int32} {N : Mm} (h_a0 : OK 0 a0 2) (h_a1 : OK 0 a1 4) (he : f_X2_weighs M a0 a1 a2 a3 = some (r, N)) : KI X 0 l yX2_weighs (wz yX2_weighs cX2_weighs 10 (some .int)) rm_X2_weighs [.ref (X.2.2 a0), .ref (X.2.2 a1), .int a2, .int a3] M r N := by
  intro sz
  refine K_of (Qc := (fun sz => QI X 0 r N sz)) (own := RX2) (lv0 := [(0, .ref (X.2.2 a0)), (1, .ref (X.2.2 a1)), (2, .int a2), (3, .int a3)]) (by decide +kernel) rfl (Nat.le_of_ble_eq_true rfl) rfl (fun p e s m args below meth c S => ?_) sz
  · unfold f_X2_weighs at he
    refine z_aload_n S dX2_weighs_0 rfl 0 rfl ?_
    refine z_getI S fo_RX2_27 rfl h_a0 dX2_weighs_1 ?_
    refine z_iconst (v := (-1)) S dX2_weighs_4 (by decide) ?_
    refine z_icmp_ne (tgt := 15) S he dX2_weighs_5 (by decide) (fun he => ?_) (fun he => ?_)
    · refine z_aload_n S dX2_weighs_15 rfl 0 rfl ?_
      refine z_getF (j := (a0 + 5)) S fo_RX2_24 5 rfl rfl h_a0 dX2_weighs_16 ?_
      refine z_iconst (v := 0) S dX2_weighs_19 (by decide) ?_
      refine z_aload_n S dX2_weighs_20 rfl 1 rfl ?_
      refine z_iload_n S dX2_weighs_21 rfl 3 rfl ?_
      refine z_iconst (v := 0) S dX2_weighs_22 (by decide) ?_
      obtain ⟨r1, h9, he⟩ := bnd he
      refine z_cVI (As := [.int a3, .int 0]) S cv_RX2_44 (K_X4_ofVisitor h_a1 h9) h_a1 (by decide) (q := (RX4, TX4, 10)) rfl rfl ⟨rfl, rfl⟩ ⟨Nat.le_of_ble_eq_true rfl, Nat.le_of_ble_eq_true rfl⟩ ⟨Nat.le_refl _, Nat.le_refl _⟩ rfl rfl (Nat.le_of_ble_eq_true rfl) dX2_weighs_23 ?_
      obtain ⟨M2, h9, he⟩ := bnd he
      refine z_cNV (As := [.ref (X.2.2 (a0 + 5)), .int 0, .int r1]) S cn_RX2_40 (K_X9_put (okf2_5 h_a0).1 h9) ⟨rfl, rfl⟩ ⟨Nat.le_of_ble_eq_true rfl, Nat.le_of_ble_eq_true rfl⟩ ⟨Nat.le_refl _, Nat.le_refl _⟩ rfl rfl (Nat.le_of_ble_eq_true rfl) dX2_weighs_26 ?_
      refine z_aload_n S dX2_weighs_29 rfl 0 rfl ?_
      refine z_getF (j := (a0 + 5)) S fo_RX2_24 5 rfl rfl h_a0 dX2_weighs_30 ?_
      refine z_iconst (v := 1) S dX2_weighs_33 (by decide) ?_
      refine z_aload_n S dX2_weighs_34 rfl 1 rfl ?_
      refine z_iload_n S dX2_weighs_35 rfl 3 rfl ?_
      refine z_iconst (v := 1) S dX2_weighs_36 (by decide) ?_
      obtain ⟨r3, h9, he⟩ := bnd he
      refine z_cVI (As := [.int a3, .int 1]) S cv_RX2_44 (K_X4_ofVisitor h_a1 h9) h_a1 (by decide) (q := (RX4, TX4, 10)) rfl rfl ⟨rfl, rfl⟩ ⟨Nat.le_of_ble_eq_true rfl, Nat.le_of_ble_eq_true rfl⟩ ⟨Nat.le_refl _, Nat.le_refl _⟩ rfl rfl (Nat.le_of_ble_eq_true rfl) dX2_weighs_37 ?_
      obtain ⟨M4, h9, he⟩ := bnd he
      refine z_cNV (As := [.ref (X.2.2 (a0 + 5)), .int 1, .int r3]) S cn_RX2_40 (K_X9_put (okf2_5 h_a0).1 h9) ⟨rfl, rfl⟩ ⟨Nat.le_of_ble_eq_true rfl, Nat.le_of_ble_eq_true rfl⟩ ⟨Nat.le_refl _, Nat.le_refl _⟩ rfl rfl (Nat.le_of_ble_eq_true rfl) dX2_weighs_40 ?_
      refine z_aload_n S dX2_weighs_43 rfl 0 rfl ?_
      refine z_getF (j := (a0 + 5)) S fo_RX2_24 5 rfl rfl h_a0 dX2_weighs_44 ?_
      refine z_iconst (v := 2) S dX2_weighs_47 (by decide) ?_
      refine z_aload_n S dX2_weighs_48 rfl 1 rfl ?_
      refine z_iload_n S dX2_weighs_49 rfl 3 rfl ?_
      refine z_iconst (v := 2) S dX2_weighs_50 (by decide) ?_
      obtain ⟨r5, h9, he⟩ := bnd he
      refine z_cVI (As := [.int a3, .int 2]) S cv_RX2_44 (K_X4_ofVisitor h_a1 h9) h_a1 (by decide) (q := (RX4, TX4, 10)) rfl rfl ⟨rfl, rfl⟩ ⟨Nat.le_of_ble_eq_true rfl, Nat.le_of_ble_eq_true rfl⟩ ⟨Nat.le_refl _, Nat.le_refl _⟩ rfl rfl (Nat.le_of_ble_eq_true rfl) dX2_weighs_51 ?_
      obtain ⟨M6, h9, he⟩ := bnd he
      refine z_cNV (As := [.ref (X.2.2 (a0 + 5)), .int 2, .int r5]) S cn_RX2_40 (K_X9_put (okf2_5 h_a0).1 h9) ⟨rfl, rfl⟩ ⟨Nat.le_of_ble_eq_true rfl, Nat.le_of_ble_eq_true rfl⟩ ⟨Nat.le_refl _, Nat.le_refl _⟩ rfl rfl (Nat.le_of_ble_eq_true rfl) dX2_weighs_54 ?_
      refine z_aload_n S dX2_weighs_57 rfl 0 rfl ?_
      refine z_getF (j := (a0 + 5)) S fo_RX2_24 5 rfl rfl h_a0 dX2_weighs_58 ?_
      refine z_iconst (v := 3) S dX2_weighs_61 (by decide) ?_
      refine z_aload_n S dX2_weighs_62 rfl 1 rfl ?_
      refine z_iload_n S dX2_weighs_63 rfl 2 rfl ?_
      refine z_iconst (v := 0) S dX2_weighs_64 (by decide) ?_
      obtain ⟨r7, h9, he⟩ := bnd he
      refine z_cVI (As := [.int a2, .int 0]) S cv_RX2_50 (K_X4_ofThing h_a1 h9) h_a1 (by decide) (q := (RX4, TX4, 10)) rfl rfl ⟨rfl, rfl⟩ ⟨Nat.le_of_ble_eq_true rfl, Nat.le_of_ble_eq_true rfl⟩ ⟨Nat.le_refl _, Nat.le_refl _⟩ rfl rfl (Nat.le_of_ble_eq_true rfl) dX2_weighs_65 ?_
      obtain ⟨M8, h9, he⟩ := bnd he
      refine z_cNV (As := [.ref (X.2.2 (a0 + 5)), .int 3, .int r7]) S cn_RX2_40 (K_X9_put (okf2_5 h_a0).1 h9) ⟨rfl, rfl⟩ ⟨Nat.le_of_ble_eq_true rfl, Nat.le_of_ble_eq_true rfl⟩ ⟨Nat.le_refl _, Nat.le_refl _⟩ rfl rfl (Nat.le_of_ble_eq_true rfl) dX2_weighs_68 ?_
      refine z_aload_n S dX2_weighs_71 rfl 0 rfl ?_
      refine z_getF (j := (a0 + 5)) S fo_RX2_24 5 rfl rfl h_a0 dX2_weighs_72 ?_
      refine z_iconst (v := 4) S dX2_weighs_75 (by decide) ?_
      refine z_aload_n S dX2_weighs_76 rfl 1 rfl ?_
      refine z_iload_n S dX2_weighs_77 rfl 2 rfl ?_
      refine z_iconst (v := 4) S dX2_weighs_78 (by decide) ?_
      obtain ⟨r9, h9, he⟩ := bnd he
      refine z_cVI (As := [.int a2, .int 4]) S cv_RX2_50 (K_X4_ofThing h_a1 h9) h_a1 (by decide) (q := (RX4, TX4, 10)) rfl rfl ⟨rfl, rfl⟩ ⟨Nat.le_of_ble_eq_true rfl, Nat.le_of_ble_eq_true rfl⟩ ⟨Nat.le_refl _, Nat.le_refl _⟩ rfl rfl (Nat.le_of_ble_eq_true rfl) dX2_weighs_79 ?_
      obtain ⟨M10, h9, he⟩ := bnd he
      refine z_cNV (As := [.ref (X.2.2 (a0 + 5)), .int 4, .int r9]) S cn_RX2_40 (K_X9_put (okf2_5 h_a0).1 h9) ⟨rfl, rfl⟩ ⟨Nat.le_of_ble_eq_true rfl, Nat.le_of_ble_eq_true rfl⟩ ⟨Nat.le_refl _, Nat.le_refl _⟩ rfl rfl (Nat.le_of_ble_eq_true rfl) dX2_weighs_82 ?_
      refine z_aload_n S dX2_weighs_85 rfl 0 rfl ?_
      refine z_getF (j := (a0 + 5)) S fo_RX2_24 5 rfl rfl h_a0 dX2_weighs_86 ?_
      refine z_iconst (v := 5) S dX2_weighs_89 (by decide) ?_
      refine z_aload_n S dX2_weighs_90 rfl 1 rfl ?_
      refine z_getI S fo_RX2_53 rfl h_a1 dX2_weighs_91 ?_
      obtain ⟨M11, h9, he⟩ := bnd he
      refine z_cNV (As := [.ref (X.2.2 (a0 + 5)), .int 5, .int (gI M10 a1 7)]) S cn_RX2_40 (K_X9_put (okf2_5 h_a0).1 h9) ⟨rfl, rfl⟩ ⟨Nat.le_of_ble_eq_true rfl, Nat.le_of_ble_eq_true rfl⟩ ⟨Nat.le_refl _, Nat.le_refl _⟩ rfl rfl (Nat.le_of_ble_eq_true rfl) dX2_weighs_94 ?_
      refine z_aload_n S dX2_weighs_97 rfl 1 rfl ?_
      refine z_iload_n S dX2_weighs_98 rfl 3 rfl ?_
      refine z_iconst (v := 4) S dX2_weighs_99 (by decide) ?_
      obtain ⟨r12, h9, he⟩ := bnd he
      refine z_cVI (As := [.int a3, .int 4]) S cv_RX2_44 (K_X4_ofVisitor h_a1 h9) h_a1 (by decide) (q := (RX4, TX4, 10)) rfl rfl ⟨rfl, rfl⟩ ⟨Nat.le_of_ble_eq_true rfl, Nat.le_of_ble_eq_true rfl⟩ ⟨Nat.le_refl _, Nat.le_refl _⟩ rfl rfl (Nat.le_of_ble_eq_true rfl) dX2_weighs_100 ?_
      refine z_istore (lv' := [(0, .ref (X.2.2 a0)), (2, .int a2), (4, .int r12)]) S [1, 3, 0] dX2_weighs_103 (by decide) rfl ?_
      refine z_iconst (v := 0) S dX2_weighs_105 (by decide) ?_
      refine z_istore (lv' := [(0, .ref (X.2.2 a0)), (2, .int a2), (4, .int r12), (5, .int 0)]) S [1, 2, 3, 0] dX2_weighs_106 (by decide) rfl ?_
      refine z_iconst (v := 0) S dX2_weighs_108 (by decide) ?_
      refine z_istore (lv' := [(0, .ref (X.2.2 a0)), (2, .int a2), (4, .int r12), (5, .int 0), (6, .int 0)]) S [1, 2, 3, 4, 0] dX2_weighs_109 (by decide) rfl ?_
      refine z_iconst (v := 0) S dX2_weighs_111 (by decide) ?_
      refine z_istore (lv' := [(0, .ref (X.2.2 a0)), (2, .int a2), (4, .int r12), (5, .int 0), (6, .int 0), (7, .int 0)]) S [1, 2, 3, 4, 5, 0] dX2_weighs_112 (by decide) rfl ?_
      obtain ⟨e_17, hl, he⟩ := bnd he
      have hX : Z X 0 p l e rm_X2_weighs s m args below meth c 0 0 (MQ below (QI X 0 r N s.heap.size) args s 0 0 (AA X 0 s.heap.size)) 10 M11 194 [(5, .int e_17)] [] := by
        refine z_iload S dX2_weighs_194 0 rfl ?_
        refine z_iconst (v := 0) S dX2_weighs_196 (by decide) ?_
        refine z_mmax S cm_RX2_64 (Nat.le_of_ble_eq_true rfl) (Nat.le_of_ble_eq_true rfl) ⟨Nat.le_refl _, Nat.le_refl _⟩ dX2_weighs_197 ?_
        exact z_iret S (Prod.mk.inj (Option.some.inj he)) dX2_weighs_200
      exact loopZ (Zh := (fun a_17 => Z X 0 p l e rm_X2_weighs s m args below meth c 0 0 (MQ below (QI X 0 r N s.heap.size) args s 0 0 (AA X 0 s.heap.size)) 10 M11 114 [(0, .ref (X.2.2 a0)), (2, .int a2), (4, .int r12), (5, .int a_17.1), (6, .int a_17.2.1), (7, .int a_17.2.2)] [])) (fun a_17 x hb hc hr => p_X2_weighs_L114 S h_a0 hb hc (fun b hxe => by rw [hr b hxe]; exact hX)) FU _ hl
    · refine z_aload_n S dX2_weighs_8 rfl 1 rfl ?_
      refine z_iload_n S dX2_weighs_9 rfl 3 rfl ?_
      refine z_iconst (v := 1) S dX2_weighs_10 (by decide) ?_
      obtain ⟨r18, h9, he⟩ := bnd he
      refine z_cVI (As := [.int a3, .int 1]) S cv_RX2_44 (K_X4_ofVisitor h_a1 h9) h_a1 (by decide) (q := (RX4, TX4, 10)) rfl rfl ⟨rfl, rfl⟩ ⟨Nat.le_of_ble_eq_true rfl, Nat.le_of_ble_eq_true rfl⟩ ⟨Nat.le_refl _, Nat.le_refl _⟩ rfl rfl (Nat.le_of_ble_eq_true rfl) dX2_weighs_11 ?_
      exact z_iret S (Prod.mk.inj (Option.some.inj he)) dX2_weighs_14
set_option maxRecDepth 100000 in
set_option maxHeartbeats 4000000 in
theorem K_X4_rings {X : Cx} {l : Launch} {M : Mm} {a0 : Nat} {a1 : Int32} {a2 : Int32} {r : Bool} (h_a0 : OK 0 a0 4) (he : f_X4_rings M a0 a1 a2 = some r) : KI X 0 l yX4_rings (wz yX4_rings cX4_rings 3 (some .boolean)) rm_X4_rings [.ref (X.2.2 a0), .int a1, .int a2] M (bI r) M := by
  intro sz
  refine K_of (Qc := (fun sz => QI X 0 (bI r) M sz)) (own := RX4) (lv0 := [(0, .ref (X.2.2 a0)), (1, .int a1), (2, .int a2)]) (by decide +kernel) rfl (Nat.le_of_ble_eq_true rfl) rfl (fun p e s m args below meth c S => ?_) sz
  · unfold f_X4_rings at he
    refine z_aload_n S dX4_rings_0 rfl 0 rfl ?_
    refine z_iload_n S dX4_rings_1 rfl 1 rfl ?_
    refine z_iconst (v := 3) S dX4_rings_2 (by decide) ?_
    obtain ⟨r1, h9, he⟩ := bnd he
    refine z_cVI (As := [.int a1, .int 3]) S cv_RX4_57 (K_X4_ofThing h_a0 h9) h_a0 (by decide) (q := (RX4, TX4, 10)) rfl rfl ⟨rfl, rfl⟩ ⟨Nat.le_of_ble_eq_true rfl, Nat.le_of_ble_eq_true rfl⟩ ⟨Nat.le_refl _, Nat.le_refl _⟩ rfl rfl (Nat.le_of_ble_eq_true rfl) dX4_rings_3 ?_
    refine z_iconst (v := 1) S dX4_rings_6 (by decide) ?_
    refine z_icmp_ne (tgt := 35) S he dX4_rings_7 (by decide) (fun he => ?_) (fun he => ?_)
    · refine z_iconst (v := 0) S dX4_rings_35 (by decide) ?_
      exact z_zret0 S (⟨Option.some.inj he, rfl⟩) dX4_rings_36
    · refine z_iload_n S dX4_rings_10 rfl 2 rfl ?_
      refine z_if_le (tgt := 35) S he dX4_rings_11 (by decide) (fun he => ?_) (fun he => ?_)
      · refine z_iconst (v := 0) S dX4_rings_35 (by decide) ?_
        exact z_zret0 S (⟨Option.some.inj he, rfl⟩) dX4_rings_36
      · refine z_iload_n S dX4_rings_14 rfl 2 rfl ?_
        refine z_aload_n S dX4_rings_15 rfl 0 rfl ?_
        refine z_iload_n S dX4_rings_16 rfl 1 rfl ?_
        refine z_iconst (v := 1) S dX4_rings_17 (by decide) ?_
        obtain ⟨r2, h9, he⟩ := bnd he
        refine z_cVI (As := [.int a1, .int 1]) S cv_RX4_57 (K_X4_ofThing h_a0 h9) h_a0 (by decide) (q := (RX4, TX4, 10)) rfl rfl ⟨rfl, rfl⟩ ⟨Nat.le_of_ble_eq_true rfl, Nat.le_of_ble_eq_true rfl⟩ ⟨Nat.le_refl _, Nat.le_refl _⟩ rfl rfl (Nat.le_of_ble_eq_true rfl) dX4_rings_18 ?_
        refine z_aload_n S dX4_rings_21 rfl 0 rfl ?_
        refine z_iload_n S dX4_rings_22 rfl 1 rfl ?_
        refine z_iconst (v := 4) S dX4_rings_23 (by decide) ?_
        obtain ⟨r3, h9, he⟩ := bnd he
        refine z_cVI (As := [.int a1, .int 4]) S cv_RX4_57 (K_X4_ofThing h_a0 h9) h_a0 (by decide) (q := (RX4, TX4, 10)) rfl rfl ⟨rfl, rfl⟩ ⟨Nat.le_of_ble_eq_true rfl, Nat.le_of_ble_eq_true rfl⟩ ⟨Nat.le_refl _, Nat.le_refl _⟩ rfl rfl (Nat.le_of_ble_eq_true rfl) dX4_rings_24 ?_
        refine z_isub S dX4_rings_27 ?_
        refine z_icmp_lt (tgt := 35) S he dX4_rings_28 (by decide) (fun he => ?_) (fun he => ?_)
        · refine z_iconst (v := 0) S dX4_rings_35 (by decide) ?_
          exact z_zret0 S (⟨Option.some.inj he, rfl⟩) dX4_rings_36
        · refine z_iconst (v := 1) S dX4_rings_31 (by decide) ?_
          refine z_goto (tgt := 36) S dX4_rings_32 (by decide) ?_
          exact z_zret1 S (⟨Option.some.inj he, rfl⟩) dX4_rings_36
set_option maxRecDepth 100000 in
set_option maxHeartbeats 4000000 in
theorem p_X9_ringing_L5 {X : Cx} {p : Program} {l : Launch} {e : Env} {s : State} {m : MethodId} {args : Array Value} {below : List Frame} {meth : Method} {c : Code} (S : SB X 0 p s m args meth c cX9_ringing 5 (some .int) RX9) {M : Mm} {N : Mm} {r : Int32} {v1 : Nat} {v2 : Int32} {v3 : Int32} {v4 : Int32} {x : (Mm × Int32 × Int32) ⊕ (Mm × Int32)} (h_v1 : OK 0 v1 4) (he : f_X9_ringing_L5 M v1 v2 v3 v4 = some x) (hc : ∀ b, x = .inl b → Z X 0 p l e rm_X9_ringing s m args below meth c 0 0 (MQ below (QI X 0 r N s.heap.size) args s 0 0 (AA X 0 s.heap.size)) 5 b.1 5 [(0, .ref (X.2.2 1)), (1, .ref (X.2.2 v1)), (2, .int v2), (3, .int b.2.1), (4, .int b.2.2)] []) (hx : ∀ b, x = .inr b → Z X 0 p l e rm_X9_ringing s m args below meth c 0 0 (MQ below (QI X 0 r N s.heap.size) args s 0 0 (AA X 0 s.heap.size)) 5 b.1 47 [(3, .int b.2)] []) : Z X 0 p l e rm_X9_ringing s m args below meth c 0 0 (MQ below (QI X 0 r N s.heap.size) args s 0 0 (AA X 0 s.heap.size)) 5 M 5 [(0, .ref (X.2.2 1)), (1, .ref (X.2.2 v1)), (2, .int v2), (3, .int v3), (4, .int v4)] [] := by
  unfold f_X9_ringing_L5 at he
  refine z_iload S dX9_ringing_5 4 rfl ?_
  refine z_aload_n S dX9_ringing_7 rfl 1 rfl ?_
  refine z_getI S fo_RX9_191 rfl h_v1 dX9_ringing_8 ?_
  refine z_icmp_ge (tgt := 47) S he dX9_ringing_11 (by decide) (fun he => ?_) (fun he => ?_)
  · refine z_lv (ks := [3]) rfl ?_
    exact hx _ (Option.some.inj he).symm
  · refine z_aload_n S dX9_ringing_14 rfl 1 rfl ?_
    refine z_iload S dX9_ringing_15 4 rfl ?_
    refine z_aload_n S dX9_ringing_17 rfl 0 rfl ?_
    refine z_getGb (k2 := 2) S fo_RX9_30 rfl ok_1 (by decide) he dX9_ringing_18 (fun q1 hq1 he => ?_)
    refine z_aload_n S dX9_ringing_21 rfl 1 rfl ?_
    refine z_iload S dX9_ringing_22 4 rfl ?_
    refine z_iload_n S dX9_ringing_24 rfl 2 rfl ?_
    obtain ⟨⟨r2, M3⟩, h9, he⟩ := bnd he
    dsimp only at he
    refine z_cVI (As := [.ref (X.2.2 v1), .int v4, .int v2]) S cv_RX9_187 (K_X2_weighs (okk2 hq1) h_v1 h9) (okk2 hq1) (by decide) (q := (RX2, TX2, 7)) rfl rfl ⟨rfl, rfl⟩ ⟨Nat.le_of_ble_eq_true rfl, Nat.le_of_ble_eq_true rfl⟩ ⟨Nat.le_refl _, Nat.le_refl _⟩ rfl rfl (Nat.le_of_ble_eq_true rfl) dX9_ringing_25 ?_
    obtain ⟨r4, h9, he⟩ := bnd he
    refine z_cVI (As := [.int v4, .int r2]) S cv_RX9_194 (K_X4_rings h_v1 h9) h_v1 (by decide) (q := (RX4, TX4, 10)) rfl rfl ⟨rfl, rfl⟩ ⟨Nat.le_of_ble_eq_true rfl, Nat.le_of_ble_eq_true rfl⟩ ⟨Nat.le_refl _, Nat.le_refl _⟩ rfl rfl (Nat.le_of_ble_eq_true rfl) dX9_ringing_28 ?_
    refine z_ifb_eq (tgt := 41) S he dX9_ringing_31 (by decide) (fun he => ?_) (fun he => ?_)
    · refine z_iinc (v := (v4 + 1)) (lv' := [(0, .ref (X.2.2 1)), (1, .ref (X.2.2 v1)), (2, .int v2), (3, .int v3), (4, .int (v4 + 1))]) S [1, 2, 3, 4, 0] 4 dX9_ringing_41 rfl (by rfl) (by decide) rfl ?_
      refine z_goto (tgt := 5) S dX9_ringing_44 (by decide) ?_
      refine z_lv (ks := [0, 1, 2, 3, 4]) rfl ?_
      exact hc _ (Option.some.inj he).symm
    · refine z_iload_n S dX9_ringing_34 rfl 3 rfl ?_
      refine z_iconst (v := 1) S dX9_ringing_35 (by decide) ?_
      refine z_iload S dX9_ringing_36 4 rfl ?_
      refine z_ishl S dX9_ringing_38 ?_
      refine z_ior S dX9_ringing_39 ?_
      obtain ⟨x5, ex5, he⟩ := bnd he
      rw [Option.some.inj ex5]
      refine z_istore_n (lv' := [(0, .ref (X.2.2 1)), (1, .ref (X.2.2 v1)), (2, .int v2), (3, .int x5), (4, .int v4)]) S [1, 2, 3, 0, 4] dX9_ringing_40 rfl (by decide) rfl ?_
      refine z_iinc (v := (v4 + 1)) (lv' := [(0, .ref (X.2.2 1)), (1, .ref (X.2.2 v1)), (2, .int v2), (3, .int x5), (4, .int (v4 + 1))]) S [1, 2, 3, 4, 0] 4 dX9_ringing_41 rfl (by rfl) (by decide) rfl ?_
      refine z_goto (tgt := 5) S dX9_ringing_44 (by decide) ?_
      refine z_lv (ks := [0, 1, 2, 3, 4]) rfl ?_
      exact hc _ (Option.some.inj he).symm
set_option maxRecDepth 100000 in
set_option maxHeartbeats 4000000 in
theorem K_X9_ringing {X : Cx} {l : Launch} {M : Mm} {a1 : Nat} {a2 : Int32} {r : Int32} {N : Mm} (h_a1 : OK 0 a1 4) (he : f_X9_ringing M a1 a2 = some (r, N)) : KI X 0 l yX9_ringing (wz yX9_ringing cX9_ringing 5 (some .int)) rm_X9_ringing [.ref (X.2.2 1), .ref (X.2.2 a1), .int a2] M r N := by
  intro sz
  refine K_of (Qc := (fun sz => QI X 0 r N sz)) (own := RX9) (lv0 := [(0, .ref (X.2.2 1)), (1, .ref (X.2.2 a1)), (2, .int a2)]) (by decide +kernel) rfl (Nat.le_of_ble_eq_true rfl) rfl (fun p e s m args below meth c S => ?_) sz
  · unfold f_X9_ringing at he
    refine z_iconst (v := 0) S dX9_ringing_0 (by decide) ?_
    refine z_istore_n (lv' := [(0, .ref (X.2.2 1)), (1, .ref (X.2.2 a1)), (2, .int a2), (3, .int 0)]) S [1, 2, 3, 0] dX9_ringing_1 rfl (by decide) rfl ?_
    refine z_iconst (v := 0) S dX9_ringing_2 (by decide) ?_
    refine z_istore (lv' := [(0, .ref (X.2.2 1)), (1, .ref (X.2.2 a1)), (2, .int a2), (3, .int 0), (4, .int 0)]) S [1, 2, 3, 4, 0] dX9_ringing_3 (by decide) rfl ?_
    obtain ⟨e_6, hl, he⟩ := bnd he
    have hX : Z X 0 p l e rm_X9_ringing s m args below meth c 0 0 (MQ below (QI X 0 r N s.heap.size) args s 0 0 (AA X 0 s.heap.size)) 5 e_6.1 47 [(3, .int e_6.2)] [] := by
      refine z_iload_n S dX9_ringing_47 rfl 0 rfl ?_
      exact z_iret S (Prod.mk.inj (Option.some.inj he)) dX9_ringing_48
    exact loopZ (Zh := (fun a_6 => Z X 0 p l e rm_X9_ringing s m args below meth c 0 0 (MQ below (QI X 0 r N s.heap.size) args s 0 0 (AA X 0 s.heap.size)) 5 a_6.1 5 [(0, .ref (X.2.2 1)), (1, .ref (X.2.2 a1)), (2, .int a2), (3, .int a_6.2.1), (4, .int a_6.2.2)] [])) (fun a_6 x hb hc hr => p_X9_ringing_L5 S h_a1 hb hc (fun b hxe => by rw [hr b hxe]; exact hX)) FU _ hl
set_option maxRecDepth 100000 in
set_option maxHeartbeats 4000000 in
theorem K_X6_likes {X : Cx} {l : Launch} {M : Mm} {a1 : Int32} {a2 : Int32} {r : Int32}  (he : f_X6_likes M a1 a2 = some r) : KI X 0 l yX6_likes (wz yX6_likes cX6_likes 3 (some .int)) rm_X6_likes [.ref (X.2.2 82), .int a1, .int a2] M r M := by
  intro sz
  refine K_of (Qc := (fun sz => QI X 0 r M sz)) (own := RX6) (lv0 := [(0, .ref (X.2.2 82)), (1, .int a1), (2, .int a2)]) (by decide +kernel) rfl (Nat.le_of_ble_eq_true rfl) rfl (fun p e s m args below meth c S => ?_) sz
  · unfold f_X6_likes at he
    refine z_aload_n S dX6_likes_0 rfl 0 rfl ?_
    refine z_getF (j := 83) S fo_RX6_9 1 rfl rfl ok_82 dX6_likes_1 ?_
    refine z_iload_n S dX6_likes_4 rfl 1 rfl ?_
    refine z_bipush (v := 10) S dX6_likes_5 (by decide) ?_
    refine z_imul S dX6_likes_7 ?_
    refine z_iload_n S dX6_likes_8 rfl 2 rfl ?_
    refine z_iadd S dX6_likes_9 ?_
    obtain ⟨r1, h9, he⟩ := bnd he
    refine z_cNI (As := [.ref (X.2.2 83), .int ((a1 * 10) + a2)]) S cn_RX6_55 (K_X9_at ok_83 h9) ⟨rfl, rfl⟩ ⟨Nat.le_of_ble_eq_true rfl, Nat.le_of_ble_eq_true rfl⟩ ⟨Nat.le_refl _, Nat.le_refl _⟩ rfl rfl (Nat.le_of_ble_eq_true rfl) dX6_likes_10 ?_
    exact z_iret S (⟨Option.some.inj he, rfl⟩) dX6_likes_13
set_option maxRecDepth 100000 in
set_option maxHeartbeats 4000000 in
theorem p_X6_listen_L15 {X : Cx} {p : Program} {l : Launch} {e : Env} {s : State} {m : MethodId} {args : Array Value} {below : List Frame} {meth : Method} {c : Code} (S : SB X 0 p s m args meth c cX6_listen 5 none RX6) {M : Mm} {N : Mm} {v1 : Nat} {v2 : Int32} {v3 : Int32} {v4 : Int32} {x : (Int32 × Int32) ⊕ Int32} (h_v1 : OK 0 v1 4) (he : f_X6_listen_L15 M v1 v2 v3 v4 = some x) (hc : ∀ b, x = .inl b → Z X 0 p l e rm_X6_listen s m args below meth c 0 0 (MQ below (QV X 0 N s.heap.size) args s 0 0 (AA X 0 s.heap.size)) 5 M 15 [(0, .ref (X.2.2 82)), (1, .ref (X.2.2 v1)), (2, .int v2), (3, .int b.1), (4, .int b.2)] []) (hx : ∀ b, x = .inr b → Z X 0 p l e rm_X6_listen s m args below meth c 0 0 (MQ below (QV X 0 N s.heap.size) args s 0 0 (AA X 0 s.heap.size)) 5 M 52 [(0, .ref (X.2.2 82)), (1, .ref (X.2.2 v1)), (2, .int v2), (3, .int b)] []) : Z X 0 p l e rm_X6_listen s m args below meth c 0 0 (MQ below (QV X 0 N s.heap.size) args s 0 0 (AA X 0 s.heap.size)) 5 M 15 [(0, .ref (X.2.2 82)), (1, .ref (X.2.2 v1)), (2, .int v2), (3, .int v3), (4, .int v4)] [] := by
  unfold f_X6_listen_L15 at he
  refine z_iload S dX6_listen_15 4 rfl ?_
  refine z_aload_n S dX6_listen_17 rfl 1 rfl ?_
  refine z_getI S fo_RX6_30 rfl h_v1 dX6_listen_18 ?_
  refine z_icmp_ge (tgt := 52) S he dX6_listen_21 (by decide) (fun he => ?_) (fun he => ?_)
  · refine z_lv (ks := [0, 1, 2, 3]) rfl ?_
    exact hx _ (Option.some.inj he).symm
  · refine z_aload_n S dX6_listen_24 rfl 1 rfl ?_
    refine z_iload_n S dX6_listen_25 rfl 2 rfl ?_
    refine z_aload_n S dX6_listen_26 rfl 0 rfl ?_
    refine z_iload_n S dX6_listen_27 rfl 2 rfl ?_
    refine z_iload S dX6_listen_28 4 rfl ?_
    obtain ⟨r1, h9, he⟩ := bnd he
    refine z_cVI (As := [.int v2, .int v4]) S cv_RX6_47 (K_X6_likes  h9) ok_82 (by decide) (q := (RX6, TX6, 4)) rfl rfl ⟨rfl, rfl⟩ ⟨Nat.le_of_ble_eq_true rfl, Nat.le_of_ble_eq_true rfl⟩ ⟨Nat.le_refl _, Nat.le_refl _⟩ rfl rfl (Nat.le_of_ble_eq_true rfl) dX6_listen_30 ?_
    obtain ⟨r2, h9, he⟩ := bnd he
    refine z_cVI (As := [.int v2, .int r1]) S cv_RX6_51 (K_X4_rings h_v1 h9) h_v1 (by decide) (q := (RX4, TX4, 10)) rfl rfl ⟨rfl, rfl⟩ ⟨Nat.le_of_ble_eq_true rfl, Nat.le_of_ble_eq_true rfl⟩ ⟨Nat.le_refl _, Nat.le_refl _⟩ rfl rfl (Nat.le_of_ble_eq_true rfl) dX6_listen_33 ?_
    refine z_ifb_eq (tgt := 46) S he dX6_listen_36 (by decide) (fun he => ?_) (fun he => ?_)
    · refine z_iinc (v := (v4 + 1)) (lv' := [(0, .ref (X.2.2 82)), (1, .ref (X.2.2 v1)), (2, .int v2), (3, .int v3), (4, .int (v4 + 1))]) S [1, 2, 3, 4, 0] 4 dX6_listen_46 rfl (by rfl) (by decide) rfl ?_
      refine z_goto (tgt := 15) S dX6_listen_49 (by decide) ?_
      refine z_lv (ks := [0, 1, 2, 3, 4]) rfl ?_
      exact hc _ (Option.some.inj he).symm
    · refine z_iload_n S dX6_listen_39 rfl 3 rfl ?_
      refine z_iconst (v := 1) S dX6_listen_40 (by decide) ?_
      refine z_iload S dX6_listen_41 4 rfl ?_
      refine z_ishl S dX6_listen_43 ?_
      refine z_ior S dX6_listen_44 ?_
      obtain ⟨x3, ex3, he⟩ := bnd he
      rw [Option.some.inj ex3]
      refine z_istore_n (lv' := [(0, .ref (X.2.2 82)), (1, .ref (X.2.2 v1)), (2, .int v2), (3, .int x3), (4, .int v4)]) S [1, 2, 3, 0, 4] dX6_listen_45 rfl (by decide) rfl ?_
      refine z_iinc (v := (v4 + 1)) (lv' := [(0, .ref (X.2.2 82)), (1, .ref (X.2.2 v1)), (2, .int v2), (3, .int x3), (4, .int (v4 + 1))]) S [1, 2, 3, 4, 0] 4 dX6_listen_46 rfl (by rfl) (by decide) rfl ?_
      refine z_goto (tgt := 15) S dX6_listen_49 (by decide) ?_
      refine z_lv (ks := [0, 1, 2, 3, 4]) rfl ?_
      exact hc _ (Option.some.inj he).symm
set_option maxRecDepth 100000 in
set_option maxHeartbeats 4000000 in
theorem p_X6_listen_L2 {X : Cx} {p : Program} {l : Launch} {e : Env} {s : State} {m : MethodId} {args : Array Value} {below : List Frame} {meth : Method} {c : Code} (S : SB X 0 p s m args meth c cX6_listen 5 none RX6) {M : Mm} {N : Mm} {v1 : Nat} {v2 : Int32} {x : (Mm × Int32) ⊕ Mm} (h_v1 : OK 0 v1 4) (he : f_X6_listen_L2 M v1 v2 = some x) (hc : ∀ b, x = .inl b → Z X 0 p l e rm_X6_listen s m args below meth c 0 0 (MQ below (QV X 0 N s.heap.size) args s 0 0 (AA X 0 s.heap.size)) 5 b.1 2 [(0, .ref (X.2.2 82)), (1, .ref (X.2.2 v1)), (2, .int b.2)] []) (hx : ∀ b, x = .inr b → Z X 0 p l e rm_X6_listen s m args below meth c 0 0 (MQ below (QV X 0 N s.heap.size) args s 0 0 (AA X 0 s.heap.size)) 5 b 67 [] []) : Z X 0 p l e rm_X6_listen s m args below meth c 0 0 (MQ below (QV X 0 N s.heap.size) args s 0 0 (AA X 0 s.heap.size)) 5 M 2 [(0, .ref (X.2.2 82)), (1, .ref (X.2.2 v1)), (2, .int v2)] [] := by
  unfold f_X6_listen_L2 at he
  refine z_iload_n S dX6_listen_2 rfl 2 rfl ?_
  refine z_aload_n S dX6_listen_3 rfl 1 rfl ?_
  refine z_getI S fo_RX6_24 rfl h_v1 dX6_listen_4 ?_
  refine z_icmp_ge (tgt := 67) S he dX6_listen_7 (by decide) (fun he => ?_) (fun he => ?_)
  · refine z_lv (ks := []) rfl ?_
    exact hx _ (Option.some.inj he).symm
  · refine z_iconst (v := 0) S dX6_listen_10 (by decide) ?_
    refine z_istore_n (lv' := [(0, .ref (X.2.2 82)), (1, .ref (X.2.2 v1)), (2, .int v2), (3, .int 0)]) S [1, 2, 3, 0] dX6_listen_11 rfl (by decide) rfl ?_
    refine z_iconst (v := 0) S dX6_listen_12 (by decide) ?_
    refine z_istore (lv' := [(0, .ref (X.2.2 82)), (1, .ref (X.2.2 v1)), (2, .int v2), (3, .int 0), (4, .int 0)]) S [1, 2, 3, 4, 0] dX6_listen_13 (by decide) rfl ?_
    obtain ⟨e_4, hl, he⟩ := bnd he
    have hX : Z X 0 p l e rm_X6_listen s m args below meth c 0 0 (MQ below (QV X 0 N s.heap.size) args s 0 0 (AA X 0 s.heap.size)) 5 M 52 [(0, .ref (X.2.2 82)), (1, .ref (X.2.2 v1)), (2, .int v2), (3, .int e_4)] [] := by
      refine z_aload_n S dX6_listen_52 rfl 0 rfl ?_
      refine z_getF (j := 84) S fo_RX6_15 2 rfl rfl ok_82 dX6_listen_53 ?_
      refine z_iload_n S dX6_listen_56 rfl 2 rfl ?_
      refine z_iload_n S dX6_listen_57 rfl 3 rfl ?_
      obtain ⟨M5, h9, he⟩ := bnd he
      refine z_cNV (As := [.ref (X.2.2 84), .int v2, .int e_4]) S cn_RX6_39 (K_X9_put ok_84 h9) ⟨rfl, rfl⟩ ⟨Nat.le_of_ble_eq_true rfl, Nat.le_of_ble_eq_true rfl⟩ ⟨Nat.le_refl _, Nat.le_refl _⟩ rfl rfl (Nat.le_of_ble_eq_true rfl) dX6_listen_58 ?_
      refine z_iinc (v := (v2 + 1)) (lv' := [(0, .ref (X.2.2 82)), (1, .ref (X.2.2 v1)), (2, .int (v2 + 1)), (3, .int e_4)]) S [1, 2, 0, 3] 2 dX6_listen_61 rfl (by rfl) (by decide) rfl ?_
      refine z_goto (tgt := 2) S dX6_listen_64 (by decide) ?_
      refine z_lv (ks := [0, 1, 2]) rfl ?_
      exact hc _ (Option.some.inj he).symm
    exact loopZ (Zh := (fun a_4 => Z X 0 p l e rm_X6_listen s m args below meth c 0 0 (MQ below (QV X 0 N s.heap.size) args s 0 0 (AA X 0 s.heap.size)) 5 M 15 [(0, .ref (X.2.2 82)), (1, .ref (X.2.2 v1)), (2, .int v2), (3, .int a_4.1), (4, .int a_4.2)] [])) (fun a_4 x hb hc hr => p_X6_listen_L15 S h_v1 hb hc (fun b hxe => by rw [hr b hxe]; exact hX)) FU _ hl
set_option maxRecDepth 100000 in
set_option maxHeartbeats 4000000 in
theorem K_X6_listen {X : Cx} {l : Launch} {M : Mm} {a1 : Nat} {N : Mm} (h_a1 : OK 0 a1 4) (he : f_X6_listen M a1 = some N) : KV X 0 l yX6_listen (wz yX6_listen cX6_listen 5 none) rm_X6_listen [.ref (X.2.2 82), .ref (X.2.2 a1)] M N := by
  intro sz
  refine K_of (Qc := (fun sz => QV X 0 N sz)) (own := RX6) (lv0 := [(0, .ref (X.2.2 82)), (1, .ref (X.2.2 a1))]) (by decide +kernel) rfl (Nat.le_of_ble_eq_true rfl) rfl (fun p e s m args below meth c S => ?_) sz
  · unfold f_X6_listen at he
    refine z_iconst (v := 0) S dX6_listen_0 (by decide) ?_
    refine z_istore_n (lv' := [(0, .ref (X.2.2 82)), (1, .ref (X.2.2 a1)), (2, .int 0)]) S [1, 2, 0] dX6_listen_1 rfl (by decide) rfl ?_
    obtain ⟨e_6, hl, he⟩ := bnd he
    have hX : Z X 0 p l e rm_X6_listen s m args below meth c 0 0 (MQ below (QV X 0 N s.heap.size) args s 0 0 (AA X 0 s.heap.size)) 5 e_6 67 [] [] := by
      exact z_vret S (Option.some.inj he) dX6_listen_67
    exact loopZ (Zh := (fun a_6 => Z X 0 p l e rm_X6_listen s m args below meth c 0 0 (MQ below (QV X 0 N s.heap.size) args s 0 0 (AA X 0 s.heap.size)) 5 a_6.1 2 [(0, .ref (X.2.2 82)), (1, .ref (X.2.2 a1)), (2, .int a_6.2)] [])) (fun a_6 x hb hc hr => p_X6_listen_L2 S h_a1 hb hc (fun b hxe => by rw [hr b hxe]; exact hX)) FU _ hl
set_option maxRecDepth 100000 in
set_option maxHeartbeats 4000000 in
theorem p_X6_weigh_L13 {X : Cx} {p : Program} {l : Launch} {e : Env} {s : State} {m : MethodId} {args : Array Value} {below : List Frame} {meth : Method} {c : Code} (S : SB X 0 p s m args meth c cX6_weigh 5 none RX6) {M : Mm} {N : Mm} {v1 : Nat} {v2 : Nat} {v3 : Int32} {v4 : Int32} {x : (Mm × Int32) ⊕ Mm} (h_v1 : OK 0 v1 4) (h_v2 : OK 0 v2 2) (he : f_X6_weigh_L13 M v1 v2 v3 v4 = some x) (hc : ∀ b, x = .inl b → Z X 0 p l e rm_X6_weigh s m args below meth c 0 0 (MQ below (QV X 0 N s.heap.size) args s 0 0 (AA X 0 s.heap.size)) 5 b.1 13 [(0, .ref (X.2.2 82)), (1, .ref (X.2.2 v1)), (2, .ref (X.2.2 v2)), (3, .int v3), (4, .int b.2)] []) (hx : ∀ b, x = .inr b → Z X 0 p l e rm_X6_weigh s m args below meth c 0 0 (MQ below (QV X 0 N s.heap.size) args s 0 0 (AA X 0 s.heap.size)) 5 b 50 [(0, .ref (X.2.2 82)), (1, .ref (X.2.2 v1)), (2, .ref (X.2.2 v2)), (3, .int v3)] []) : Z X 0 p l e rm_X6_weigh s m args below meth c 0 0 (MQ below (QV X 0 N s.heap.size) args s 0 0 (AA X 0 s.heap.size)) 5 M 13 [(0, .ref (X.2.2 82)), (1, .ref (X.2.2 v1)), (2, .ref (X.2.2 v2)), (3, .int v3), (4, .int v4)] [] := by
  unfold f_X6_weigh_L13 at he
  refine z_iload S dX6_weigh_13 4 rfl ?_
  refine z_aload_n S dX6_weigh_15 rfl 1 rfl ?_
  refine z_getI S fo_RX6_30 rfl h_v1 dX6_weigh_16 ?_
  refine z_icmp_ge (tgt := 50) S he dX6_weigh_19 (by decide) (fun he => ?_) (fun he => ?_)
  · refine z_lv (ks := [0, 1, 2, 3]) rfl ?_
    exact hx _ (Option.some.inj he).symm
  · refine z_aload_n S dX6_weigh_22 rfl 0 rfl ?_
    refine z_getF (j := 83) S fo_RX6_9 1 rfl rfl ok_82 dX6_weigh_23 ?_
    refine z_iload_n S dX6_weigh_26 rfl 3 rfl ?_
    refine z_bipush (v := 10) S dX6_weigh_27 (by decide) ?_
    refine z_imul S dX6_weigh_29 ?_
    refine z_iload S dX6_weigh_30 4 rfl ?_
    refine z_iadd S dX6_weigh_32 ?_
    refine z_aload_n S dX6_weigh_33 rfl 2 rfl ?_
    refine z_aload_n S dX6_weigh_34 rfl 1 rfl ?_
    refine z_iload_n S dX6_weigh_35 rfl 3 rfl ?_
    refine z_iload S dX6_weigh_36 4 rfl ?_
    obtain ⟨⟨r1, M2⟩, h9, he⟩ := bnd he
    dsimp only at he
    refine z_cVI (As := [.ref (X.2.2 v1), .int v3, .int v4]) S cv_RX6_33 (K_X2_weighs h_v2 h_v1 h9) h_v2 (by decide) (q := (RX2, TX2, 7)) rfl rfl ⟨rfl, rfl⟩ ⟨Nat.le_of_ble_eq_true rfl, Nat.le_of_ble_eq_true rfl⟩ ⟨Nat.le_refl _, Nat.le_refl _⟩ rfl rfl (Nat.le_of_ble_eq_true rfl) dX6_weigh_38 ?_
    obtain ⟨M3, h9, he⟩ := bnd he
    refine z_cNV (As := [.ref (X.2.2 83), .int ((v3 * 10) + v4), .int r1]) S cn_RX6_39 (K_X9_put ok_83 h9) ⟨rfl, rfl⟩ ⟨Nat.le_of_ble_eq_true rfl, Nat.le_of_ble_eq_true rfl⟩ ⟨Nat.le_refl _, Nat.le_refl _⟩ rfl rfl (Nat.le_of_ble_eq_true rfl) dX6_weigh_41 ?_
    refine z_iinc (v := (v4 + 1)) (lv' := [(0, .ref (X.2.2 82)), (1, .ref (X.2.2 v1)), (2, .ref (X.2.2 v2)), (3, .int v3), (4, .int (v4 + 1))]) S [1, 2, 3, 4, 0] 4 dX6_weigh_44 rfl (by rfl) (by decide) rfl ?_
    refine z_goto (tgt := 13) S dX6_weigh_47 (by decide) ?_
    refine z_lv (ks := [0, 1, 2, 3, 4]) rfl ?_
    exact hc _ (Option.some.inj he).symm
set_option maxRecDepth 100000 in
set_option maxHeartbeats 4000000 in
theorem p_X6_weigh_L2 {X : Cx} {p : Program} {l : Launch} {e : Env} {s : State} {m : MethodId} {args : Array Value} {below : List Frame} {meth : Method} {c : Code} (S : SB X 0 p s m args meth c cX6_weigh 5 none RX6) {M : Mm} {N : Mm} {v1 : Nat} {v2 : Nat} {v3 : Int32} {x : (Mm × Int32) ⊕ Mm} (h_v1 : OK 0 v1 4) (h_v2 : OK 0 v2 2) (he : f_X6_weigh_L2 M v1 v2 v3 = some x) (hc : ∀ b, x = .inl b → Z X 0 p l e rm_X6_weigh s m args below meth c 0 0 (MQ below (QV X 0 N s.heap.size) args s 0 0 (AA X 0 s.heap.size)) 5 b.1 2 [(0, .ref (X.2.2 82)), (1, .ref (X.2.2 v1)), (2, .ref (X.2.2 v2)), (3, .int b.2)] []) (hx : ∀ b, x = .inr b → Z X 0 p l e rm_X6_weigh s m args below meth c 0 0 (MQ below (QV X 0 N s.heap.size) args s 0 0 (AA X 0 s.heap.size)) 5 b 56 [(0, .ref (X.2.2 82)), (1, .ref (X.2.2 v1))] []) : Z X 0 p l e rm_X6_weigh s m args below meth c 0 0 (MQ below (QV X 0 N s.heap.size) args s 0 0 (AA X 0 s.heap.size)) 5 M 2 [(0, .ref (X.2.2 82)), (1, .ref (X.2.2 v1)), (2, .ref (X.2.2 v2)), (3, .int v3)] [] := by
  unfold f_X6_weigh_L2 at he
  refine z_iload_n S dX6_weigh_2 rfl 3 rfl ?_
  refine z_aload_n S dX6_weigh_3 rfl 1 rfl ?_
  refine z_getI S fo_RX6_24 rfl h_v1 dX6_weigh_4 ?_
  refine z_icmp_ge (tgt := 56) S he dX6_weigh_7 (by decide) (fun he => ?_) (fun he => ?_)
  · refine z_lv (ks := [0, 1]) rfl ?_
    exact hx _ (Option.some.inj he).symm
  · refine z_iconst (v := 0) S dX6_weigh_10 (by decide) ?_
    refine z_istore (lv' := [(0, .ref (X.2.2 82)), (1, .ref (X.2.2 v1)), (2, .ref (X.2.2 v2)), (3, .int v3), (4, .int 0)]) S [1, 2, 3, 4, 0] dX6_weigh_11 (by decide) rfl ?_
    obtain ⟨e_4, hl, he⟩ := bnd he
    have hX : Z X 0 p l e rm_X6_weigh s m args below meth c 0 0 (MQ below (QV X 0 N s.heap.size) args s 0 0 (AA X 0 s.heap.size)) 5 e_4 50 [(0, .ref (X.2.2 82)), (1, .ref (X.2.2 v1)), (2, .ref (X.2.2 v2)), (3, .int v3)] [] := by
      refine z_iinc (v := (v3 + 1)) (lv' := [(0, .ref (X.2.2 82)), (1, .ref (X.2.2 v1)), (2, .ref (X.2.2 v2)), (3, .int (v3 + 1))]) S [1, 2, 3, 0] 3 dX6_weigh_50 rfl (by rfl) (by decide) rfl ?_
      refine z_goto (tgt := 2) S dX6_weigh_53 (by decide) ?_
      refine z_lv (ks := [0, 1, 2, 3]) rfl ?_
      exact hc _ (Option.some.inj he).symm
    exact loopZ (Zh := (fun a_4 => Z X 0 p l e rm_X6_weigh s m args below meth c 0 0 (MQ below (QV X 0 N s.heap.size) args s 0 0 (AA X 0 s.heap.size)) 5 a_4.1 13 [(0, .ref (X.2.2 82)), (1, .ref (X.2.2 v1)), (2, .ref (X.2.2 v2)), (3, .int v3), (4, .int a_4.2)] [])) (fun a_4 x hb hc hr => p_X6_weigh_L13 S h_v1 h_v2 hb hc (fun b hxe => by rw [hr b hxe]; exact hX)) FU _ hl
set_option maxRecDepth 100000 in
set_option maxHeartbeats 4000000 in
theorem K_X6_weigh {X : Cx} {l : Launch} {M : Mm} {a1 : Nat} {a2 : Nat} {N : Mm} (h_a1 : OK 0 a1 4) (h_a2 : OK 0 a2 2) (he : f_X6_weigh M a1 a2 = some N) : KV X 0 l yX6_weigh (wz yX6_weigh cX6_weigh 5 none) rm_X6_weigh [.ref (X.2.2 82), .ref (X.2.2 a1), .ref (X.2.2 a2)] M N := by
  intro sz
  refine K_of (Qc := (fun sz => QV X 0 N sz)) (own := RX6) (lv0 := [(0, .ref (X.2.2 82)), (1, .ref (X.2.2 a1)), (2, .ref (X.2.2 a2))]) (by decide +kernel) rfl (Nat.le_of_ble_eq_true rfl) rfl (fun p e s m args below meth c S => ?_) sz
  · unfold f_X6_weigh at he
    refine z_iconst (v := 0) S dX6_weigh_0 (by decide) ?_
    refine z_istore_n (lv' := [(0, .ref (X.2.2 82)), (1, .ref (X.2.2 a1)), (2, .ref (X.2.2 a2)), (3, .int 0)]) S [1, 2, 3, 0] dX6_weigh_1 rfl (by decide) rfl ?_
    obtain ⟨e_5, hl, he⟩ := bnd he
    have hX : Z X 0 p l e rm_X6_weigh s m args below meth c 0 0 (MQ below (QV X 0 N s.heap.size) args s 0 0 (AA X 0 s.heap.size)) 5 e_5 56 [(0, .ref (X.2.2 82)), (1, .ref (X.2.2 a1))] [] := by
      refine z_aload_n S dX6_weigh_56 rfl 0 rfl ?_
      refine z_aload_n S dX6_weigh_57 rfl 1 rfl ?_
      obtain ⟨M6, h9, he⟩ := bnd he
      refine z_cVV (As := [.ref (X.2.2 a1)]) S cv_RX6_43 (K_X6_listen h_a1 h9) ok_82 (by decide) (q := (RX6, TX6, 4)) rfl rfl ⟨rfl, rfl⟩ ⟨Nat.le_of_ble_eq_true rfl, Nat.le_of_ble_eq_true rfl⟩ ⟨Nat.le_refl _, Nat.le_refl _⟩ rfl rfl (Nat.le_of_ble_eq_true rfl) dX6_weigh_58 ?_
      exact z_vret S (Option.some.inj he) dX6_weigh_61
    exact loopZ (Zh := (fun a_5 => Z X 0 p l e rm_X6_weigh s m args below meth c 0 0 (MQ below (QV X 0 N s.heap.size) args s 0 0 (AA X 0 s.heap.size)) 5 a_5.1 2 [(0, .ref (X.2.2 82)), (1, .ref (X.2.2 a1)), (2, .ref (X.2.2 a2)), (3, .int a_5.2)] [])) (fun a_5 x hb hc hr => p_X6_weigh_L2 S h_a1 h_a2 hb hc (fun b hxe => by rw [hr b hxe]; exact hX)) FU _ hl
set_option maxRecDepth 100000 in
set_option maxHeartbeats 4000000 in
theorem K_X4_drawsAway {X : Cx} {l : Launch} {M : Mm} {a0 : Nat} {a1 : Int32} {r : Bool} {N : Mm} (h_a0 : OK 0 a0 4) (he : f_X4_drawsAway M a0 a1 = some (r, N)) : KI X 0 l yX4_drawsAway (wz yX4_drawsAway cX4_drawsAway 2 (some .boolean)) rm_X4_drawsAway [.ref (X.2.2 a0), .int a1] M (bI r) N := by
  intro sz
  refine K_of (Qc := (fun sz => QI X 0 (bI r) N sz)) (own := RX4) (lv0 := [(0, .ref (X.2.2 a0)), (1, .int a1)]) (by decide +kernel) rfl (Nat.le_of_ble_eq_true rfl) rfl (fun p e s m args below meth c S => ?_) sz
  · unfold f_X4_drawsAway at he
    refine z_aload_n S dX4_drawsAway_0 rfl 0 rfl ?_
    refine z_aload_n S dX4_drawsAway_1 rfl 0 rfl ?_
    refine z_getI S fo_RX4_25 rfl h_a0 dX4_drawsAway_2 ?_
    refine z_ldc (v := 1103515245) S kc_RX4_71 dX4_drawsAway_5 ?_
    refine z_imul S dX4_drawsAway_7 ?_
    refine z_sipush (v := 12345) S dX4_drawsAway_8 (by decide) ?_
    refine z_iadd S dX4_drawsAway_11 ?_
    refine z_putIb S fo_RX4_25p rfl h_a0 rfl rfl he dX4_drawsAway_12 (fun M1 he => ?_)
    refine z_aload_n S dX4_drawsAway_15 rfl 0 rfl ?_
    refine z_getI S fo_RX4_25 rfl h_a0 dX4_drawsAway_16 ?_
    refine z_bipush (v := 16) S dX4_drawsAway_19 (by decide) ?_
    refine z_iushr S dX4_drawsAway_21 ?_
    refine z_sipush (v := 32767) S dX4_drawsAway_22 (by decide) ?_
    refine z_iand S dX4_drawsAway_25 ?_
    refine z_bipush (v := 100) S dX4_drawsAway_26 (by decide) ?_
    refine z_irem S (by decide) dX4_drawsAway_28 ?_
    refine z_aload_n S dX4_drawsAway_29 rfl 0 rfl ?_
    refine z_iload_n S dX4_drawsAway_30 rfl 1 rfl ?_
    refine z_iconst (v := 3) S dX4_drawsAway_31 (by decide) ?_
    obtain ⟨r2, h9, he⟩ := bnd he
    refine z_cVI (As := [.int a1, .int 3]) S cv_RX4_65 (K_X4_ofVisitor h_a0 h9) h_a0 (by decide) (q := (RX4, TX4, 10)) rfl rfl ⟨rfl, rfl⟩ ⟨Nat.le_of_ble_eq_true rfl, Nat.le_of_ble_eq_true rfl⟩ ⟨Nat.le_refl _, Nat.le_refl _⟩ rfl rfl (Nat.le_of_ble_eq_true rfl) dX4_drawsAway_32 ?_
    refine z_icmp_ge (tgt := 42) S he dX4_drawsAway_35 (by decide) (fun he => ?_) (fun he => ?_)
    · refine z_iconst (v := 0) S dX4_drawsAway_42 (by decide) ?_
      exact z_zret0 S (Prod.mk.inj (Option.some.inj he)) dX4_drawsAway_43
    · refine z_iconst (v := 1) S dX4_drawsAway_38 (by decide) ?_
      refine z_goto (tgt := 43) S dX4_drawsAway_39 (by decide) ?_
      exact z_zret1 S (Prod.mk.inj (Option.some.inj he)) dX4_drawsAway_43
set_option maxRecDepth 100000 in
set_option maxHeartbeats 4000000 in
theorem K_X6_calls {X : Cx} {l : Launch} {M : Mm} {a1 : Int32} {a2 : Int32} {r : Bool}  (he : f_X6_calls M a1 a2 = some r) : KI X 0 l yX6_calls (wz yX6_calls cX6_calls 3 (some .boolean)) rm_X6_calls [.ref (X.2.2 82), .int a1, .int a2] M (bI r) M := by
  intro sz
  refine K_of (Qc := (fun sz => QI X 0 (bI r) M sz)) (own := RX6) (lv0 := [(0, .ref (X.2.2 82)), (1, .int a1), (2, .int a2)]) (by decide +kernel) rfl (Nat.le_of_ble_eq_true rfl) rfl (fun p e s m args below meth c S => ?_) sz
  · unfold f_X6_calls at he
    refine z_aload_n S dX6_calls_0 rfl 0 rfl ?_
    refine z_getF (j := 84) S fo_RX6_15 2 rfl rfl ok_82 dX6_calls_1 ?_
    refine z_iload_n S dX6_calls_4 rfl 1 rfl ?_
    obtain ⟨r1, h9, he⟩ := bnd he
    refine z_cNI (As := [.ref (X.2.2 84), .int a1]) S cn_RX6_55 (K_X9_at ok_84 h9) ⟨rfl, rfl⟩ ⟨Nat.le_of_ble_eq_true rfl, Nat.le_of_ble_eq_true rfl⟩ ⟨Nat.le_refl _, Nat.le_refl _⟩ rfl rfl (Nat.le_of_ble_eq_true rfl) dX6_calls_5 ?_
    refine z_iload_n S dX6_calls_8 rfl 2 rfl ?_
    refine z_ishr S dX6_calls_9 ?_
    refine z_iconst (v := 1) S dX6_calls_10 (by decide) ?_
    refine z_iand S dX6_calls_11 ?_
    refine z_iconst (v := 1) S dX6_calls_12 (by decide) ?_
    refine z_icmp_ne (tgt := 20) S he dX6_calls_13 (by decide) (fun he => ?_) (fun he => ?_)
    · refine z_iconst (v := 0) S dX6_calls_20 (by decide) ?_
      exact z_zret0 S (⟨Option.some.inj he, rfl⟩) dX6_calls_21
    · refine z_iconst (v := 1) S dX6_calls_16 (by decide) ?_
      refine z_goto (tgt := 21) S dX6_calls_17 (by decide) ?_
      exact z_zret1 S (⟨Option.some.inj he, rfl⟩) dX6_calls_21
set_option maxRecDepth 100000 in
set_option maxHeartbeats 4000000 in
theorem K_X4_stepOf {X : Cx} {l : Launch} {M : Mm} {a0 : Nat} {a1 : Int32} {r : Int32} (h_a0 : OK 0 a0 4) (he : f_X4_stepOf M a0 a1 = some r) : KI X 0 l yX4_stepOf (wz yX4_stepOf cX4_stepOf 2 (some .int)) rm_X4_stepOf [.ref (X.2.2 a0), .int a1] M r M := by
  intro sz
  refine K_of (Qc := (fun sz => QI X 0 r M sz)) (own := RX4) (lv0 := [(0, .ref (X.2.2 a0)), (1, .int a1)]) (by decide +kernel) rfl (Nat.le_of_ble_eq_true rfl) rfl (fun p e s m args below meth c S => ?_) sz
  · unfold f_X4_stepOf at he
    refine z_aload_n S dX4_stepOf_0 rfl 0 rfl ?_
    refine z_getI S fo_RX4_21 rfl h_a0 dX4_stepOf_1 ?_
    refine z_if_le (tgt := 16) S he dX4_stepOf_4 (by decide) (fun he => ?_) (fun he => ?_)
    · refine z_iconst (v := 0) S dX4_stepOf_16 (by decide) ?_
      exact z_iret S (⟨Option.some.inj he, rfl⟩) dX4_stepOf_17
    · refine z_iload_n S dX4_stepOf_7 rfl 1 rfl ?_
      refine z_aload_n S dX4_stepOf_8 rfl 0 rfl ?_
      refine z_getI S fo_RX4_21 rfl h_a0 dX4_stepOf_9 ?_
      obtain ⟨hy9, he⟩ := grd he
      refine z_idiv S hy9 dX4_stepOf_12 ?_
      refine z_goto (tgt := 17) S dX4_stepOf_13 (by decide) ?_
      exact z_iret S (⟨Option.some.inj he, rfl⟩) dX4_stepOf_17
set_option maxRecDepth 100000 in
set_option maxHeartbeats 4000000 in
theorem p_X6_firstToRing_J9_95 {X : Cx} {p : Program} {l : Launch} {e : Env} {s : State} {m : MethodId} {args : Array Value} {below : List Frame} {meth : Method} {c : Code} (S : SB X 0 p s m args meth c cX6_firstToRing 8 (some .int) RX6) {M : Mm} {r : Int32} {v1 : Nat} {v2 : Int32} {v5 : Int32} {v6 : Int32} {x : (Int32 × Int32 × Int32) ⊕ Int32} (h_v1 : OK 0 v1 4) (he : f_X6_firstToRing_J9_95 M v1 v2 v5 v6 = some x) (hc : ∀ b, x = .inl b → Z X 0 p l e rm_X6_firstToRing s m args below meth c 0 0 (MQ below (QI X 0 r M s.heap.size) args s 0 0 (AA X 0 s.heap.size)) 8 M 9 [(0, .ref (X.2.2 82)), (1, .ref (X.2.2 v1)), (2, .int v2), (3, .int b.1), (4, .int b.2.1), (5, .int b.2.2)] []) (hx : ∀ b, x = .inr b → Z X 0 p l e rm_X6_firstToRing s m args below meth c 0 0 (MQ below (QI X 0 r M s.heap.size) args s 0 0 (AA X 0 s.heap.size)) 8 M 108 [(3, .int b)] []) : Z X 0 p l e rm_X6_firstToRing s m args below meth c 0 0 (MQ below (QI X 0 r M s.heap.size) args s 0 0 (AA X 0 s.heap.size)) 8 M 95 [(0, .ref (X.2.2 82)), (1, .ref (X.2.2 v1)), (2, .int v2), (5, .int v5), (6, .int v6)] [] := by
  unfold f_X6_firstToRing_J9_95 at he
  refine z_iload S dX6_firstToRing_95 3 rfl ?_
  refine z_istore_n (lv' := [(0, .ref (X.2.2 82)), (1, .ref (X.2.2 v1)), (2, .int v2), (3, .int v5), (5, .int v5), (6, .int v6)]) S [1, 2, 3, 0, 4, 5] dX6_firstToRing_97 rfl (by decide) rfl ?_
  refine z_iload S dX6_firstToRing_98 5 rfl ?_
  refine z_istore (lv' := [(0, .ref (X.2.2 82)), (1, .ref (X.2.2 v1)), (2, .int v2), (3, .int v5), (4, .int v6), (5, .int v5)]) S [1, 2, 3, 4, 0, 5] dX6_firstToRing_100 (by decide) rfl ?_
  refine z_iinc (v := (v5 + 1)) (lv' := [(0, .ref (X.2.2 82)), (1, .ref (X.2.2 v1)), (2, .int v2), (3, .int v5), (4, .int v6), (5, .int (v5 + 1))]) S [1, 2, 3, 4, 5, 0] 5 dX6_firstToRing_102 rfl (by rfl) (by decide) rfl ?_
  refine z_goto (tgt := 9) S dX6_firstToRing_105 (by decide) ?_
  refine z_lv (ks := [0, 1, 2, 3, 4, 5]) rfl ?_
  exact hc _ (Option.some.inj he).symm
set_option maxRecDepth 100000 in
set_option maxHeartbeats 4000000 in
theorem p_X6_firstToRing_J9_81 {X : Cx} {p : Program} {l : Launch} {e : Env} {s : State} {m : MethodId} {args : Array Value} {below : List Frame} {meth : Method} {c : Code} (S : SB X 0 p s m args meth c cX6_firstToRing 8 (some .int) RX6) {M : Mm} {r : Int32} {v1 : Nat} {v2 : Int32} {v3 : Int32} {v4 : Int32} {v5 : Int32} {v6 : Int32} {t0 : Int32} {x : (Int32 × Int32 × Int32) ⊕ Int32} (h_v1 : OK 0 v1 4) (he : f_X6_firstToRing_J9_81 M v1 v2 v3 v4 v5 v6 t0 = some x) (hc : ∀ b, x = .inl b → Z X 0 p l e rm_X6_firstToRing s m args below meth c 0 0 (MQ below (QI X 0 r M s.heap.size) args s 0 0 (AA X 0 s.heap.size)) 8 M 9 [(0, .ref (X.2.2 82)), (1, .ref (X.2.2 v1)), (2, .int v2), (3, .int b.1), (4, .int b.2.1), (5, .int b.2.2)] []) (hx : ∀ b, x = .inr b → Z X 0 p l e rm_X6_firstToRing s m args below meth c 0 0 (MQ below (QI X 0 r M s.heap.size) args s 0 0 (AA X 0 s.heap.size)) 8 M 108 [(3, .int b)] []) : Z X 0 p l e rm_X6_firstToRing s m args below meth c 0 0 (MQ below (QI X 0 r M s.heap.size) args s 0 0 (AA X 0 s.heap.size)) 8 M 81 [(0, .ref (X.2.2 82)), (1, .ref (X.2.2 v1)), (2, .int v2), (3, .int v3), (4, .int v4), (5, .int v5), (6, .int v6)] [.int t0] := by
  unfold f_X6_firstToRing_J9_81 at he
  refine z_istore (lv' := [(0, .ref (X.2.2 82)), (1, .ref (X.2.2 v1)), (2, .int v2), (3, .int v3), (4, .int v4), (5, .int v5), (6, .int v6), (7, .int t0)]) S [1, 2, 3, 4, 5, 6, 7, 0] dX6_firstToRing_81 (by decide) rfl ?_
  refine z_iload S dX6_firstToRing_83 6 rfl ?_
  refine z_iload S dX6_firstToRing_85 4 rfl ?_
  refine z_icmp_lt (tgt := 95) S he dX6_firstToRing_87 (by decide) (fun he => ?_) (fun he => ?_)
  · refine z_lv (ks := [0, 1, 2, 5, 6]) rfl ?_
    exact p_X6_firstToRing_J9_95 S h_v1 he hc hx
  · refine z_iload S dX6_firstToRing_90 7 rfl ?_
    refine z_if_eq (tgt := 102) S he dX6_firstToRing_92 (by decide) (fun he => ?_) (fun he => ?_)
    · refine z_iinc (v := (v5 + 1)) (lv' := [(0, .ref (X.2.2 82)), (1, .ref (X.2.2 v1)), (2, .int v2), (3, .int v3), (4, .int v4), (5, .int (v5 + 1)), (6, .int v6), (7, .int t0)]) S [1, 2, 3, 4, 5, 0, 6, 7] 5 dX6_firstToRing_102 rfl (by rfl) (by decide) rfl ?_
      refine z_goto (tgt := 9) S dX6_firstToRing_105 (by decide) ?_
      refine z_lv (ks := [0, 1, 2, 3, 4, 5]) rfl ?_
      exact hc _ (Option.some.inj he).symm
    · refine z_lv (ks := [0, 1, 2, 5, 6]) rfl ?_
      exact p_X6_firstToRing_J9_95 S h_v1 he hc hx
set_option maxRecDepth 100000 in
set_option maxHeartbeats 4000000 in
theorem p_X6_firstToRing_J9_80 {X : Cx} {p : Program} {l : Launch} {e : Env} {s : State} {m : MethodId} {args : Array Value} {below : List Frame} {meth : Method} {c : Code} (S : SB X 0 p s m args meth c cX6_firstToRing 8 (some .int) RX6) {M : Mm} {r : Int32} {v1 : Nat} {v2 : Int32} {v3 : Int32} {v4 : Int32} {v5 : Int32} {v6 : Int32} {x : (Int32 × Int32 × Int32) ⊕ Int32} (h_v1 : OK 0 v1 4) (he : f_X6_firstToRing_J9_80 M v1 v2 v3 v4 v5 v6 = some x) (hc : ∀ b, x = .inl b → Z X 0 p l e rm_X6_firstToRing s m args below meth c 0 0 (MQ below (QI X 0 r M s.heap.size) args s 0 0 (AA X 0 s.heap.size)) 8 M 9 [(0, .ref (X.2.2 82)), (1, .ref (X.2.2 v1)), (2, .int v2), (3, .int b.1), (4, .int b.2.1), (5, .int b.2.2)] []) (hx : ∀ b, x = .inr b → Z X 0 p l e rm_X6_firstToRing s m args below meth c 0 0 (MQ below (QI X 0 r M s.heap.size) args s 0 0 (AA X 0 s.heap.size)) 8 M 108 [(3, .int b)] []) : Z X 0 p l e rm_X6_firstToRing s m args below meth c 0 0 (MQ below (QI X 0 r M s.heap.size) args s 0 0 (AA X 0 s.heap.size)) 8 M 80 [(0, .ref (X.2.2 82)), (1, .ref (X.2.2 v1)), (2, .int v2), (3, .int v3), (4, .int v4), (5, .int v5), (6, .int v6)] [] := by
  unfold f_X6_firstToRing_J9_80 at he
  refine z_iconst (v := 0) S dX6_firstToRing_80 (by decide) ?_
  exact p_X6_firstToRing_J9_81 S h_v1 he hc hx
set_option maxRecDepth 100000 in
set_option maxHeartbeats 4000000 in
theorem p_X6_firstToRing_L9 {X : Cx} {p : Program} {l : Launch} {e : Env} {s : State} {m : MethodId} {args : Array Value} {below : List Frame} {meth : Method} {c : Code} (S : SB X 0 p s m args meth c cX6_firstToRing 8 (some .int) RX6) {M : Mm} {r : Int32} {v1 : Nat} {v2 : Int32} {v3 : Int32} {v4 : Int32} {v5 : Int32} {x : (Int32 × Int32 × Int32) ⊕ Int32} (h_v1 : OK 0 v1 4) (he : f_X6_firstToRing_L9 M v1 v2 v3 v4 v5 = some x) (hc : ∀ b, x = .inl b → Z X 0 p l e rm_X6_firstToRing s m args below meth c 0 0 (MQ below (QI X 0 r M s.heap.size) args s 0 0 (AA X 0 s.heap.size)) 8 M 9 [(0, .ref (X.2.2 82)), (1, .ref (X.2.2 v1)), (2, .int v2), (3, .int b.1), (4, .int b.2.1), (5, .int b.2.2)] []) (hx : ∀ b, x = .inr b → Z X 0 p l e rm_X6_firstToRing s m args below meth c 0 0 (MQ below (QI X 0 r M s.heap.size) args s 0 0 (AA X 0 s.heap.size)) 8 M 108 [(3, .int b)] []) : Z X 0 p l e rm_X6_firstToRing s m args below meth c 0 0 (MQ below (QI X 0 r M s.heap.size) args s 0 0 (AA X 0 s.heap.size)) 8 M 9 [(0, .ref (X.2.2 82)), (1, .ref (X.2.2 v1)), (2, .int v2), (3, .int v3), (4, .int v4), (5, .int v5)] [] := by
  unfold f_X6_firstToRing_L9 at he
  refine z_iload S dX6_firstToRing_9 5 rfl ?_
  refine z_aload_n S dX6_firstToRing_11 rfl 1 rfl ?_
  refine z_getI S fo_RX6_24 rfl h_v1 dX6_firstToRing_12 ?_
  refine z_icmp_ge (tgt := 108) S he dX6_firstToRing_15 (by decide) (fun he => ?_) (fun he => ?_)
  · refine z_lv (ks := [3]) rfl ?_
    exact hx _ (Option.some.inj he).symm
  · refine z_aload_n S dX6_firstToRing_18 rfl 0 rfl ?_
    refine z_getF (j := 86) S fo_RX6_21 4 rfl rfl ok_82 dX6_firstToRing_19 ?_
    refine z_iload S dX6_firstToRing_22 5 rfl ?_
    obtain ⟨r1, h9, he⟩ := bnd he
    refine z_cNI (As := [.ref (X.2.2 86), .int v5]) S cn_RX6_55 (K_X9_at ok_86 h9) ⟨rfl, rfl⟩ ⟨Nat.le_of_ble_eq_true rfl, Nat.le_of_ble_eq_true rfl⟩ ⟨Nat.le_refl _, Nat.le_refl _⟩ rfl rfl (Nat.le_of_ble_eq_true rfl) dX6_firstToRing_24 ?_
    refine z_if_le (tgt := 102) S he dX6_firstToRing_27 (by decide) (fun he => ?_) (fun he => ?_)
    · refine z_iinc (v := (v5 + 1)) (lv' := [(0, .ref (X.2.2 82)), (1, .ref (X.2.2 v1)), (2, .int v2), (3, .int v3), (4, .int v4), (5, .int (v5 + 1))]) S [1, 2, 3, 4, 5, 0] 5 dX6_firstToRing_102 rfl (by rfl) (by decide) rfl ?_
      refine z_goto (tgt := 9) S dX6_firstToRing_105 (by decide) ?_
      refine z_lv (ks := [0, 1, 2, 3, 4, 5]) rfl ?_
      exact hc _ (Option.some.inj he).symm
    · refine z_aload_n S dX6_firstToRing_30 rfl 0 rfl ?_
      refine z_iload S dX6_firstToRing_31 5 rfl ?_
      refine z_iload_n S dX6_firstToRing_33 rfl 2 rfl ?_
      obtain ⟨r2, h9, he⟩ := bnd he
      refine z_cVI (As := [.int v5, .int v2]) S cv_RX6_76 (K_X6_calls  h9) ok_82 (by decide) (q := (RX6, TX6, 4)) rfl rfl ⟨rfl, rfl⟩ ⟨Nat.le_of_ble_eq_true rfl, Nat.le_of_ble_eq_true rfl⟩ ⟨Nat.le_refl _, Nat.le_refl _⟩ rfl rfl (Nat.le_of_ble_eq_true rfl) dX6_firstToRing_34 ?_
      refine z_ifb_eq (tgt := 102) S he dX6_firstToRing_37 (by decide) (fun he => ?_) (fun he => ?_)
      · refine z_iinc (v := (v5 + 1)) (lv' := [(0, .ref (X.2.2 82)), (1, .ref (X.2.2 v1)), (2, .int v2), (3, .int v3), (4, .int v4), (5, .int (v5 + 1))]) S [1, 2, 3, 4, 5, 0] 5 dX6_firstToRing_102 rfl (by rfl) (by decide) rfl ?_
        refine z_goto (tgt := 9) S dX6_firstToRing_105 (by decide) ?_
        refine z_lv (ks := [0, 1, 2, 3, 4, 5]) rfl ?_
        exact hc _ (Option.some.inj he).symm
      · refine z_aload_n S dX6_firstToRing_40 rfl 1 rfl ?_
        refine z_aload_n S dX6_firstToRing_41 rfl 1 rfl ?_
        refine z_iload S dX6_firstToRing_42 5 rfl ?_
        refine z_iconst (v := 0) S dX6_firstToRing_44 (by decide) ?_
        obtain ⟨r3, h9, he⟩ := bnd he
        refine z_cVI (As := [.int v5, .int 0]) S cv_RX6_65 (K_X4_ofThing h_v1 h9) h_v1 (by decide) (q := (RX4, TX4, 10)) rfl rfl ⟨rfl, rfl⟩ ⟨Nat.le_of_ble_eq_true rfl, Nat.le_of_ble_eq_true rfl⟩ ⟨Nat.le_refl _, Nat.le_refl _⟩ rfl rfl (Nat.le_of_ble_eq_true rfl) dX6_firstToRing_45 ?_
        obtain ⟨r4, h9, he⟩ := bnd he
        refine z_cVI (As := [.int r3]) S cv_RX6_79 (K_X4_stepOf h_v1 h9) h_v1 (by decide) (q := (RX4, TX4, 10)) rfl rfl ⟨rfl, rfl⟩ ⟨Nat.le_of_ble_eq_true rfl, Nat.le_of_ble_eq_true rfl⟩ ⟨Nat.le_refl _, Nat.le_refl _⟩ rfl rfl (Nat.le_of_ble_eq_true rfl) dX6_firstToRing_48 ?_
        refine z_istore (lv' := [(0, .ref (X.2.2 82)), (1, .ref (X.2.2 v1)), (2, .int v2), (3, .int v3), (4, .int v4), (5, .int v5), (6, .int r4)]) S [1, 2, 3, 4, 5, 6, 0] dX6_firstToRing_51 (by decide) rfl ?_
        refine z_iload S dX6_firstToRing_53 6 rfl ?_
        refine z_iload S dX6_firstToRing_55 4 rfl ?_
        refine z_icmp_ne (tgt := 80) S he dX6_firstToRing_57 (by decide) (fun he => ?_) (fun he => ?_)
        · exact p_X6_firstToRing_J9_80 S h_v1 he hc hx
        · refine z_aload_n S dX6_firstToRing_60 rfl 0 rfl ?_
          refine z_iload S dX6_firstToRing_61 5 rfl ?_
          refine z_iload_n S dX6_firstToRing_63 rfl 2 rfl ?_
          obtain ⟨r5, h9, he⟩ := bnd he
          refine z_cVI (As := [.int v5, .int v2]) S cv_RX6_47 (K_X6_likes  h9) ok_82 (by decide) (q := (RX6, TX6, 4)) rfl rfl ⟨rfl, rfl⟩ ⟨Nat.le_of_ble_eq_true rfl, Nat.le_of_ble_eq_true rfl⟩ ⟨Nat.le_refl _, Nat.le_refl _⟩ rfl rfl (Nat.le_of_ble_eq_true rfl) dX6_firstToRing_64 ?_
          refine z_aload_n S dX6_firstToRing_67 rfl 0 rfl ?_
          refine z_iload_n S dX6_firstToRing_68 rfl 3 rfl ?_
          refine z_iload_n S dX6_firstToRing_69 rfl 2 rfl ?_
          obtain ⟨r6, h9, he⟩ := bnd he
          refine z_cVI (As := [.int v3, .int v2]) S cv_RX6_47 (K_X6_likes  h9) ok_82 (by decide) (q := (RX6, TX6, 4)) rfl rfl ⟨rfl, rfl⟩ ⟨Nat.le_of_ble_eq_true rfl, Nat.le_of_ble_eq_true rfl⟩ ⟨Nat.le_refl _, Nat.le_refl _⟩ rfl rfl (Nat.le_of_ble_eq_true rfl) dX6_firstToRing_70 ?_
          refine z_icmp_le (tgt := 80) S he dX6_firstToRing_73 (by decide) (fun he => ?_) (fun he => ?_)
          · exact p_X6_firstToRing_J9_80 S h_v1 he hc hx
          · refine z_iconst (v := 1) S dX6_firstToRing_76 (by decide) ?_
            refine z_goto (tgt := 81) S dX6_firstToRing_77 (by decide) ?_
            exact p_X6_firstToRing_J9_81 S h_v1 he hc hx
set_option maxRecDepth 100000 in
set_option maxHeartbeats 4000000 in
theorem K_X6_firstToRing {X : Cx} {l : Launch} {M : Mm} {a1 : Nat} {a2 : Int32} {r : Int32} (h_a1 : OK 0 a1 4) (he : f_X6_firstToRing M a1 a2 = some r) : KI X 0 l yX6_firstToRing (wz yX6_firstToRing cX6_firstToRing 8 (some .int)) rm_X6_firstToRing [.ref (X.2.2 82), .ref (X.2.2 a1), .int a2] M r M := by
  intro sz
  refine K_of (Qc := (fun sz => QI X 0 r M sz)) (own := RX6) (lv0 := [(0, .ref (X.2.2 82)), (1, .ref (X.2.2 a1)), (2, .int a2)]) (by decide +kernel) rfl (Nat.le_of_ble_eq_true rfl) rfl (fun p e s m args below meth c S => ?_) sz
  · unfold f_X6_firstToRing at he
    refine z_iconst (v := (-1)) S dX6_firstToRing_0 (by decide) ?_
    refine z_istore_n (lv' := [(0, .ref (X.2.2 82)), (1, .ref (X.2.2 a1)), (2, .int a2), (3, .int (-1))]) S [1, 2, 3, 0] dX6_firstToRing_1 rfl (by decide) rfl ?_
    refine z_bipush (v := 20) S dX6_firstToRing_2 (by decide) ?_
    refine z_istore (lv' := [(0, .ref (X.2.2 82)), (1, .ref (X.2.2 a1)), (2, .int a2), (3, .int (-1)), (4, .int 20)]) S [1, 2, 3, 4, 0] dX6_firstToRing_4 (by decide) rfl ?_
    refine z_iconst (v := 0) S dX6_firstToRing_6 (by decide) ?_
    refine z_istore (lv' := [(0, .ref (X.2.2 82)), (1, .ref (X.2.2 a1)), (2, .int a2), (3, .int (-1)), (4, .int 20), (5, .int 0)]) S [1, 2, 3, 4, 5, 0] dX6_firstToRing_7 (by decide) rfl ?_
    obtain ⟨e_7, hl, he⟩ := bnd he
    have hX : Z X 0 p l e rm_X6_firstToRing s m args below meth c 0 0 (MQ below (QI X 0 r M s.heap.size) args s 0 0 (AA X 0 s.heap.size)) 8 M 108 [(3, .int e_7)] [] := by
      refine z_iload_n S dX6_firstToRing_108 rfl 0 rfl ?_
      exact z_iret S (⟨Option.some.inj he, rfl⟩) dX6_firstToRing_109
    exact loopZ (Zh := (fun a_7 => Z X 0 p l e rm_X6_firstToRing s m args below meth c 0 0 (MQ below (QI X 0 r M s.heap.size) args s 0 0 (AA X 0 s.heap.size)) 8 M 9 [(0, .ref (X.2.2 82)), (1, .ref (X.2.2 a1)), (2, .int a2), (3, .int a_7.1), (4, .int a_7.2.1), (5, .int a_7.2.2)] [])) (fun a_7 x hb hc hr => p_X6_firstToRing_L9 S h_a1 hb hc (fun b hxe => by rw [hr b hxe]; exact hX)) FU _ hl
set_option maxRecDepth 100000 in
set_option maxHeartbeats 4000000 in
theorem p_X6_lead_L10 {X : Cx} {p : Program} {l : Launch} {e : Env} {s : State} {m : MethodId} {args : Array Value} {below : List Frame} {meth : Method} {c : Code} (S : SB X 0 p s m args meth c cX6_lead 7 (some .int) RX6) {M : Mm} {N : Mm} {r : Int32} {v1 : Nat} {v2 : Int32} {v3 : Int32} {x : (Mm × Int32) ⊕ Mm} (h_v1 : OK 0 v1 4) (he : f_X6_lead_L10 M v1 v2 v3 = some x) (hc : ∀ b, x = .inl b → Z X 0 p l e rm_X6_lead s m args below meth c 0 0 (MQ below (QI X 0 r N s.heap.size) args s 0 0 (AA X 0 s.heap.size)) 7 b.1 10 [(0, .ref (X.2.2 82)), (1, .ref (X.2.2 v1)), (2, .int v2), (3, .int b.2)] []) (hx : ∀ b, x = .inr b → Z X 0 p l e rm_X6_lead s m args below meth c 0 0 (MQ below (QI X 0 r N s.heap.size) args s 0 0 (AA X 0 s.heap.size)) 7 b 38 [(0, .ref (X.2.2 82)), (1, .ref (X.2.2 v1)), (2, .int v2)] []) : Z X 0 p l e rm_X6_lead s m args below meth c 0 0 (MQ below (QI X 0 r N s.heap.size) args s 0 0 (AA X 0 s.heap.size)) 7 M 10 [(0, .ref (X.2.2 82)), (1, .ref (X.2.2 v1)), (2, .int v2), (3, .int v3)] [] := by
  unfold f_X6_lead_L10 at he
  refine z_iload_n S dX6_lead_10 rfl 3 rfl ?_
  refine z_aload_n S dX6_lead_11 rfl 1 rfl ?_
  refine z_getI S fo_RX6_24 rfl h_v1 dX6_lead_12 ?_
  refine z_icmp_ge (tgt := 38) S he dX6_lead_15 (by decide) (fun he => ?_) (fun he => ?_)
  · refine z_lv (ks := [0, 1, 2]) rfl ?_
    exact hx _ (Option.some.inj he).symm
  · refine z_aload_n S dX6_lead_18 rfl 0 rfl ?_
    refine z_getF (j := 86) S fo_RX6_21 4 rfl rfl ok_82 dX6_lead_19 ?_
    refine z_iload_n S dX6_lead_22 rfl 3 rfl ?_
    refine z_aload_n S dX6_lead_23 rfl 1 rfl ?_
    refine z_iload_n S dX6_lead_24 rfl 3 rfl ?_
    refine z_iconst (v := 2) S dX6_lead_25 (by decide) ?_
    obtain ⟨r2, h9, he⟩ := bnd he
    refine z_cVI (As := [.int v3, .int 2]) S cv_RX6_65 (K_X4_ofThing h_v1 h9) h_v1 (by decide) (q := (RX4, TX4, 10)) rfl rfl ⟨rfl, rfl⟩ ⟨Nat.le_of_ble_eq_true rfl, Nat.le_of_ble_eq_true rfl⟩ ⟨Nat.le_refl _, Nat.le_refl _⟩ rfl rfl (Nat.le_of_ble_eq_true rfl) dX6_lead_26 ?_
    obtain ⟨M3, h9, he⟩ := bnd he
    refine z_cNV (As := [.ref (X.2.2 86), .int v3, .int r2]) S cn_RX6_39 (K_X9_put ok_86 h9) ⟨rfl, rfl⟩ ⟨Nat.le_of_ble_eq_true rfl, Nat.le_of_ble_eq_true rfl⟩ ⟨Nat.le_refl _, Nat.le_refl _⟩ rfl rfl (Nat.le_of_ble_eq_true rfl) dX6_lead_29 ?_
    refine z_iinc (v := (v3 + 1)) (lv' := [(0, .ref (X.2.2 82)), (1, .ref (X.2.2 v1)), (2, .int v2), (3, .int (v3 + 1))]) S [1, 2, 3, 0] 3 dX6_lead_32 rfl (by rfl) (by decide) rfl ?_
    refine z_goto (tgt := 10) S dX6_lead_35 (by decide) ?_
    refine z_lv (ks := [0, 1, 2, 3]) rfl ?_
    exact hc _ (Option.some.inj he).symm
set_option maxRecDepth 100000 in
set_option maxHeartbeats 4000000 in
theorem p_X6_lead_J43_88 {X : Cx} {p : Program} {l : Launch} {e : Env} {s : State} {m : MethodId} {args : Array Value} {below : List Frame} {meth : Method} {c : Code} (S : SB X 0 p s m args meth c cX6_lead 7 (some .int) RX6) {M : Mm} {N : Mm} {r : Int32} {v1 : Nat} {v2 : Int32} {v3 : Int32} {v4 : Int32} {t0 : Int32} {x : (Mm × Int32 × Int32) ⊕ (Mm × Int32)} (h_v1 : OK 0 v1 4) (he : f_X6_lead_J43_88 M v1 v2 v3 v4 t0 = some x) (hc : ∀ b, x = .inl b → Z X 0 p l e rm_X6_lead s m args below meth c 0 0 (MQ below (QI X 0 r N s.heap.size) args s 0 0 (AA X 0 s.heap.size)) 7 b.1 43 [(0, .ref (X.2.2 82)), (1, .ref (X.2.2 v1)), (2, .int v2), (3, .int b.2.1), (4, .int b.2.2)] []) (hx : ∀ b, x = .inr b → Z X 0 p l e rm_X6_lead s m args below meth c 0 0 (MQ below (QI X 0 r N s.heap.size) args s 0 0 (AA X 0 s.heap.size)) 7 b.1 136 [(3, .int b.2)] []) : Z X 0 p l e rm_X6_lead s m args below meth c 0 0 (MQ below (QI X 0 r N s.heap.size) args s 0 0 (AA X 0 s.heap.size)) 7 M 88 [(0, .ref (X.2.2 82)), (1, .ref (X.2.2 v1)), (2, .int v2), (3, .int v3), (4, .int v4)] [.int t0] := by
  unfold f_X6_lead_J43_88 at he
  refine z_istore (lv' := [(0, .ref (X.2.2 82)), (1, .ref (X.2.2 v1)), (2, .int v2), (3, .int v3), (4, .int v4), (6, .int t0)]) S [1, 2, 3, 4, 5, 0] dX6_lead_88 (by decide) rfl ?_
  refine z_iload S dX6_lead_90 5 rfl ?_
  refine z_iconst (v := (-1)) S dX6_lead_92 (by decide) ?_
  refine z_icmp_eq (tgt := 130) S he dX6_lead_93 (by decide) (fun he => ?_) (fun he => ?_)
  · refine z_iinc (v := (v4 + 1)) (lv' := [(0, .ref (X.2.2 82)), (1, .ref (X.2.2 v1)), (2, .int v2), (3, .int v3), (4, .int (v4 + 1)), (6, .int t0)]) S [1, 2, 3, 4, 0, 5] 4 dX6_lead_130 rfl (by rfl) (by decide) rfl ?_
    refine z_goto (tgt := 43) S dX6_lead_133 (by decide) ?_
    refine z_lv (ks := [0, 1, 2, 3, 4]) rfl ?_
    exact hc _ (Option.some.inj he).symm
  · refine z_aload_n S dX6_lead_96 rfl 0 rfl ?_
    refine z_getF (j := 85) S fo_RX6_18 3 rfl rfl ok_82 dX6_lead_97 ?_
    refine z_iload S dX6_lead_100 4 rfl ?_
    refine z_iload S dX6_lead_102 5 rfl ?_
    obtain ⟨M6, h9, he⟩ := bnd he
    refine z_cNV (As := [.ref (X.2.2 85), .int v4, .int t0]) S cn_RX6_39 (K_X9_put ok_85 h9) ⟨rfl, rfl⟩ ⟨Nat.le_of_ble_eq_true rfl, Nat.le_of_ble_eq_true rfl⟩ ⟨Nat.le_refl _, Nat.le_refl _⟩ rfl rfl (Nat.le_of_ble_eq_true rfl) dX6_lead_104 ?_
    refine z_aload_n S dX6_lead_107 rfl 0 rfl ?_
    refine z_getF (j := 86) S fo_RX6_21 4 rfl rfl ok_82 dX6_lead_108 ?_
    refine z_iload S dX6_lead_111 5 rfl ?_
    refine z_aload_n S dX6_lead_113 rfl 0 rfl ?_
    refine z_getF (j := 86) S fo_RX6_21 4 rfl rfl ok_82 dX6_lead_114 ?_
    refine z_iload S dX6_lead_117 5 rfl ?_
    obtain ⟨r7, h9, he⟩ := bnd he
    refine z_cNI (As := [.ref (X.2.2 86), .int t0]) S cn_RX6_55 (K_X9_at ok_86 h9) ⟨rfl, rfl⟩ ⟨Nat.le_of_ble_eq_true rfl, Nat.le_of_ble_eq_true rfl⟩ ⟨Nat.le_refl _, Nat.le_refl _⟩ rfl rfl (Nat.le_of_ble_eq_true rfl) dX6_lead_119 ?_
    refine z_iconst (v := 1) S dX6_lead_122 (by decide) ?_
    refine z_isub S dX6_lead_123 ?_
    obtain ⟨M8, h9, he⟩ := bnd he
    refine z_cNV (As := [.ref (X.2.2 86), .int t0, .int (r7 - 1)]) S cn_RX6_39 (K_X9_put ok_86 h9) ⟨rfl, rfl⟩ ⟨Nat.le_of_ble_eq_true rfl, Nat.le_of_ble_eq_true rfl⟩ ⟨Nat.le_refl _, Nat.le_refl _⟩ rfl rfl (Nat.le_of_ble_eq_true rfl) dX6_lead_124 ?_
    refine z_iinc (v := (v3 + 1)) (lv' := [(0, .ref (X.2.2 82)), (1, .ref (X.2.2 v1)), (2, .int v2), (3, .int (v3 + 1)), (4, .int v4), (6, .int t0)]) S [1, 2, 3, 0, 4, 5] 3 dX6_lead_127 rfl (by rfl) (by decide) rfl ?_
    refine z_iinc (v := (v4 + 1)) (lv' := [(0, .ref (X.2.2 82)), (1, .ref (X.2.2 v1)), (2, .int v2), (3, .int (v3 + 1)), (4, .int (v4 + 1)), (6, .int t0)]) S [1, 2, 3, 4, 0, 5] 4 dX6_lead_130 rfl (by rfl) (by decide) rfl ?_
    refine z_goto (tgt := 43) S dX6_lead_133 (by decide) ?_
    refine z_lv (ks := [0, 1, 2, 3, 4]) rfl ?_
    exact hc _ (Option.some.inj he).symm
set_option maxRecDepth 100000 in
set_option maxHeartbeats 4000000 in
theorem p_X6_lead_J43_70 {X : Cx} {p : Program} {l : Launch} {e : Env} {s : State} {m : MethodId} {args : Array Value} {below : List Frame} {meth : Method} {c : Code} (S : SB X 0 p s m args meth c cX6_lead 7 (some .int) RX6) {M : Mm} {N : Mm} {r : Int32} {v1 : Nat} {v2 : Int32} {v3 : Int32} {v4 : Int32} {t0 : Int32} {x : (Mm × Int32 × Int32) ⊕ (Mm × Int32)} (h_v1 : OK 0 v1 4) (he : f_X6_lead_J43_70 M v1 v2 v3 v4 t0 = some x) (hc : ∀ b, x = .inl b → Z X 0 p l e rm_X6_lead s m args below meth c 0 0 (MQ below (QI X 0 r N s.heap.size) args s 0 0 (AA X 0 s.heap.size)) 7 b.1 43 [(0, .ref (X.2.2 82)), (1, .ref (X.2.2 v1)), (2, .int v2), (3, .int b.2.1), (4, .int b.2.2)] []) (hx : ∀ b, x = .inr b → Z X 0 p l e rm_X6_lead s m args below meth c 0 0 (MQ below (QI X 0 r N s.heap.size) args s 0 0 (AA X 0 s.heap.size)) 7 b.1 136 [(3, .int b.2)] []) : Z X 0 p l e rm_X6_lead s m args below meth c 0 0 (MQ below (QI X 0 r N s.heap.size) args s 0 0 (AA X 0 s.heap.size)) 7 M 70 [(0, .ref (X.2.2 82)), (1, .ref (X.2.2 v1)), (2, .int v2), (3, .int v3), (4, .int v4)] [.int t0] := by
  unfold f_X6_lead_J43_70 at he
  refine z_istore (lv' := [(0, .ref (X.2.2 82)), (1, .ref (X.2.2 v1)), (2, .int v2), (3, .int v3), (4, .int v4), (5, .int t0)]) S [1, 2, 3, 4, 5, 0] dX6_lead_70 (by decide) rfl ?_
  refine z_iload S dX6_lead_72 5 rfl ?_
  refine z_if_eq (tgt := 81) S he dX6_lead_74 (by decide) (fun he => ?_) (fun he => ?_)
  · refine z_aload_n S dX6_lead_81 rfl 0 rfl ?_
    refine z_aload_n S dX6_lead_82 rfl 1 rfl ?_
    refine z_iload S dX6_lead_83 4 rfl ?_
    obtain ⟨r5, h9, he⟩ := bnd he
    refine z_cVI (As := [.ref (X.2.2 v1), .int v4]) S cv_RX6_72 (K_X6_firstToRing h_v1 h9) ok_82 (by decide) (q := (RX6, TX6, 4)) rfl rfl ⟨rfl, rfl⟩ ⟨Nat.le_of_ble_eq_true rfl, Nat.le_of_ble_eq_true rfl⟩ ⟨Nat.le_refl _, Nat.le_refl _⟩ rfl rfl (Nat.le_of_ble_eq_true rfl) dX6_lead_85 ?_
    refine z_lv (ks := [0, 1, 2, 3, 4]) rfl ?_
    exact p_X6_lead_J43_88 S h_v1 he hc hx
  · refine z_iconst (v := (-1)) S dX6_lead_77 (by decide) ?_
    refine z_goto (tgt := 88) S dX6_lead_78 (by decide) ?_
    refine z_lv (ks := [0, 1, 2, 3, 4]) rfl ?_
    exact p_X6_lead_J43_88 S h_v1 he hc hx
set_option maxRecDepth 100000 in
set_option maxHeartbeats 4000000 in
theorem p_X6_lead_J43_69 {X : Cx} {p : Program} {l : Launch} {e : Env} {s : State} {m : MethodId} {args : Array Value} {below : List Frame} {meth : Method} {c : Code} (S : SB X 0 p s m args meth c cX6_lead 7 (some .int) RX6) {M : Mm} {N : Mm} {r : Int32} {v1 : Nat} {v2 : Int32} {v3 : Int32} {v4 : Int32} {x : (Mm × Int32 × Int32) ⊕ (Mm × Int32)} (h_v1 : OK 0 v1 4) (he : f_X6_lead_J43_69 M v1 v2 v3 v4 = some x) (hc : ∀ b, x = .inl b → Z X 0 p l e rm_X6_lead s m args below meth c 0 0 (MQ below (QI X 0 r N s.heap.size) args s 0 0 (AA X 0 s.heap.size)) 7 b.1 43 [(0, .ref (X.2.2 82)), (1, .ref (X.2.2 v1)), (2, .int v2), (3, .int b.2.1), (4, .int b.2.2)] []) (hx : ∀ b, x = .inr b → Z X 0 p l e rm_X6_lead s m args below meth c 0 0 (MQ below (QI X 0 r N s.heap.size) args s 0 0 (AA X 0 s.heap.size)) 7 b.1 136 [(3, .int b.2)] []) : Z X 0 p l e rm_X6_lead s m args below meth c 0 0 (MQ below (QI X 0 r N s.heap.size) args s 0 0 (AA X 0 s.heap.size)) 7 M 69 [(0, .ref (X.2.2 82)), (1, .ref (X.2.2 v1)), (2, .int v2), (3, .int v3), (4, .int v4)] [] := by
  unfold f_X6_lead_J43_69 at he
  refine z_iconst (v := 0) S dX6_lead_69 (by decide) ?_
  exact p_X6_lead_J43_70 S h_v1 he hc hx
set_option maxRecDepth 100000 in
set_option maxHeartbeats 4000000 in
theorem p_X6_lead_L43 {X : Cx} {p : Program} {l : Launch} {e : Env} {s : State} {m : MethodId} {args : Array Value} {below : List Frame} {meth : Method} {c : Code} (S : SB X 0 p s m args meth c cX6_lead 7 (some .int) RX6) {M : Mm} {N : Mm} {r : Int32} {v1 : Nat} {v2 : Int32} {v3 : Int32} {v4 : Int32} {x : (Mm × Int32 × Int32) ⊕ (Mm × Int32)} (h_v1 : OK 0 v1 4) (he : f_X6_lead_L43 M v1 v2 v3 v4 = some x) (hc : ∀ b, x = .inl b → Z X 0 p l e rm_X6_lead s m args below meth c 0 0 (MQ below (QI X 0 r N s.heap.size) args s 0 0 (AA X 0 s.heap.size)) 7 b.1 43 [(0, .ref (X.2.2 82)), (1, .ref (X.2.2 v1)), (2, .int v2), (3, .int b.2.1), (4, .int b.2.2)] []) (hx : ∀ b, x = .inr b → Z X 0 p l e rm_X6_lead s m args below meth c 0 0 (MQ below (QI X 0 r N s.heap.size) args s 0 0 (AA X 0 s.heap.size)) 7 b.1 136 [(3, .int b.2)] []) : Z X 0 p l e rm_X6_lead s m args below meth c 0 0 (MQ below (QI X 0 r N s.heap.size) args s 0 0 (AA X 0 s.heap.size)) 7 M 43 [(0, .ref (X.2.2 82)), (1, .ref (X.2.2 v1)), (2, .int v2), (3, .int v3), (4, .int v4)] [] := by
  unfold f_X6_lead_L43 at he
  refine z_iload S dX6_lead_43 4 rfl ?_
  refine z_aload_n S dX6_lead_45 rfl 1 rfl ?_
  refine z_getI S fo_RX6_30 rfl h_v1 dX6_lead_46 ?_
  refine z_icmp_ge (tgt := 136) S he dX6_lead_49 (by decide) (fun he => ?_) (fun he => ?_)
  · refine z_lv (ks := [3]) rfl ?_
    exact hx _ (Option.some.inj he).symm
  · refine z_iload_n S dX6_lead_52 rfl 2 rfl ?_
    refine z_if_eq (tgt := 69) S he dX6_lead_53 (by decide) (fun he => ?_) (fun he => ?_)
    · exact p_X6_lead_J43_69 S h_v1 he hc hx
    · refine z_aload_n S dX6_lead_56 rfl 1 rfl ?_
      refine z_iload S dX6_lead_57 4 rfl ?_
      obtain ⟨⟨r9, M10⟩, h9, he⟩ := bnd he
      dsimp only at he
      refine z_cVI (As := [.int v4]) S cv_RX6_68 (K_X4_drawsAway h_v1 h9) h_v1 (by decide) (q := (RX4, TX4, 10)) rfl rfl ⟨rfl, rfl⟩ ⟨Nat.le_of_ble_eq_true rfl, Nat.le_of_ble_eq_true rfl⟩ ⟨Nat.le_refl _, Nat.le_refl _⟩ rfl rfl (Nat.le_of_ble_eq_true rfl) dX6_lead_59 ?_
      refine z_ifb_eq (tgt := 69) S he dX6_lead_62 (by decide) (fun he => ?_) (fun he => ?_)
      · exact p_X6_lead_J43_69 S h_v1 he hc hx
      · refine z_iconst (v := 1) S dX6_lead_65 (by decide) ?_
        refine z_goto (tgt := 70) S dX6_lead_66 (by decide) ?_
        exact p_X6_lead_J43_70 S h_v1 he hc hx
set_option maxRecDepth 100000 in
set_option maxHeartbeats 4000000 in
theorem K_X6_lead {X : Cx} {l : Launch} {M : Mm} {a1 : Nat} {a2 : Int32} {r : Int32} {N : Mm} (h_a1 : OK 0 a1 4) (he : f_X6_lead M a1 a2 = some (r, N)) : KI X 0 l yX6_lead (wz yX6_lead cX6_lead 7 (some .int)) rm_X6_lead [.ref (X.2.2 82), .ref (X.2.2 a1), .int a2] M r N := by
  intro sz
  refine K_of (Qc := (fun sz => QI X 0 r N sz)) (own := RX6) (lv0 := [(0, .ref (X.2.2 82)), (1, .ref (X.2.2 a1)), (2, .int a2)]) (by decide +kernel) rfl (Nat.le_of_ble_eq_true rfl) rfl (fun p e s m args below meth c S => ?_) sz
  · unfold f_X6_lead at he
    refine z_aload_n S dX6_lead_0 rfl 0 rfl ?_
    refine z_getF (j := 85) S fo_RX6_18 3 rfl rfl ok_82 dX6_lead_1 ?_
    refine z_iconst (v := (-1)) S dX6_lead_4 (by decide) ?_
    obtain ⟨M1, h9, he⟩ := bnd he
    refine z_cSV (As := [.ref (X.2.2 85), .int (-1)]) S cs_RX6_59 (K_J7_fill_53178 ok_85 h9) ⟨rfl, rfl⟩ ⟨Nat.le_of_ble_eq_true rfl, Nat.le_of_ble_eq_true rfl⟩ ⟨Nat.le_refl _, Nat.le_refl _⟩ rfl rfl (Nat.le_of_ble_eq_true rfl) dX6_lead_5 ?_
    refine z_iconst (v := 0) S dX6_lead_8 (by decide) ?_
    refine z_istore_n (lv' := [(0, .ref (X.2.2 82)), (1, .ref (X.2.2 a1)), (2, .int a2), (3, .int 0)]) S [1, 2, 3, 0] dX6_lead_9 rfl (by decide) rfl ?_
    obtain ⟨e_4, hl, he⟩ := bnd he
    have hX : Z X 0 p l e rm_X6_lead s m args below meth c 0 0 (MQ below (QI X 0 r N s.heap.size) args s 0 0 (AA X 0 s.heap.size)) 7 e_4 38 [(0, .ref (X.2.2 82)), (1, .ref (X.2.2 a1)), (2, .int a2)] [] := by
      refine z_iconst (v := 0) S dX6_lead_38 (by decide) ?_
      refine z_istore_n (lv' := [(0, .ref (X.2.2 82)), (1, .ref (X.2.2 a1)), (2, .int a2), (3, .int 0)]) S [1, 2, 3, 0] dX6_lead_39 rfl (by decide) rfl ?_
      refine z_iconst (v := 0) S dX6_lead_40 (by decide) ?_
      refine z_istore (lv' := [(0, .ref (X.2.2 82)), (1, .ref (X.2.2 a1)), (2, .int a2), (3, .int 0), (4, .int 0)]) S [1, 2, 3, 4, 0] dX6_lead_41 (by decide) rfl ?_
      obtain ⟨e_11, hl, he⟩ := bnd he
      have hX : Z X 0 p l e rm_X6_lead s m args below meth c 0 0 (MQ below (QI X 0 r N s.heap.size) args s 0 0 (AA X 0 s.heap.size)) 7 e_11.1 136 [(3, .int e_11.2)] [] := by
        refine z_iload_n S dX6_lead_136 rfl 0 rfl ?_
        exact z_iret S (Prod.mk.inj (Option.some.inj he)) dX6_lead_137
      exact loopZ (Zh := (fun a_11 => Z X 0 p l e rm_X6_lead s m args below meth c 0 0 (MQ below (QI X 0 r N s.heap.size) args s 0 0 (AA X 0 s.heap.size)) 7 a_11.1 43 [(0, .ref (X.2.2 82)), (1, .ref (X.2.2 a1)), (2, .int a2), (3, .int a_11.2.1), (4, .int a_11.2.2)] [])) (fun a_11 x hb hc hr => p_X6_lead_L43 S h_a1 hb hc (fun b hxe => by rw [hr b hxe]; exact hX)) FU _ hl
    exact loopZ (Zh := (fun a_4 => Z X 0 p l e rm_X6_lead s m args below meth c 0 0 (MQ below (QI X 0 r N s.heap.size) args s 0 0 (AA X 0 s.heap.size)) 7 a_4.1 10 [(0, .ref (X.2.2 82)), (1, .ref (X.2.2 a1)), (2, .int a2), (3, .int a_4.2)] [])) (fun a_4 x hb hc hr => p_X6_lead_L10 S h_a1 hb hc (fun b hxe => by rw [hr b hxe]; exact hX)) FU _ hl
set_option maxRecDepth 100000 in
set_option maxHeartbeats 4000000 in
theorem K_X4_note {X : Cx} {l : Launch} {M : Mm} {a0 : Nat} {a1 : Int32} {a2 : Int32} {a3 : Int32} {N : Mm} (h_a0 : OK 0 a0 4) (he : f_X4_note M a0 a1 a2 a3 = some N) : KV X 0 l yX4_note (wz yX4_note cX4_note 5 none) rm_X4_note [.ref (X.2.2 a0), .int a1, .int a2, .int a3] M N := by
  intro sz
  refine K_of (Qc := (fun sz => QV X 0 N sz)) (own := RX4) (lv0 := [(0, .ref (X.2.2 a0)), (1, .int a1), (2, .int a2), (3, .int a3)]) (by decide +kernel) rfl (Nat.le_of_ble_eq_true rfl) rfl (fun p e s m args below meth c S => ?_) sz
  · unfold f_X4_note at he
    refine z_aload_n S dX4_note_0 rfl 0 rfl ?_
    refine z_getI S fo_RX4_46 rfl h_a0 dX4_note_1 ?_
    refine z_bipush (v := 60) S dX4_note_4 (by decide) ?_
    refine z_irem S (by decide) dX4_note_6 ?_
    refine z_iconst (v := 5) S dX4_note_7 (by decide) ?_
    refine z_imul S dX4_note_8 ?_
    obtain ⟨x1, ex1, he⟩ := bnd he
    rw [Option.some.inj ex1]
    refine z_istore (lv' := [(0, .ref (X.2.2 a0)), (1, .int a1), (2, .int a2), (3, .int a3), (4, .int x1)]) S [1, 2, 3, 4, 0] dX4_note_9 (by decide) rfl ?_
    refine z_aload_n S dX4_note_11 rfl 0 rfl ?_
    refine z_getF (j := (a0 + 3)) S fo_RX4_18 3 rfl rfl h_a0 dX4_note_12 ?_
    refine z_iload S dX4_note_15 4 rfl ?_
    refine z_aload_n S dX4_note_17 rfl 0 rfl ?_
    refine z_getI S fo_RX4_43 rfl h_a0 dX4_note_18 ?_
    obtain ⟨M2, h9, he⟩ := bnd he
    refine z_cNV (As := [.ref (X.2.2 (a0 + 3)), .int x1, .int (gI M a0 7)]) S cn_RX4_53 (K_X9_put (okf4_3 h_a0).1 h9) ⟨rfl, rfl⟩ ⟨Nat.le_of_ble_eq_true rfl, Nat.le_of_ble_eq_true rfl⟩ ⟨Nat.le_refl _, Nat.le_refl _⟩ rfl rfl (Nat.le_of_ble_eq_true rfl) dX4_note_21 ?_
    refine z_aload_n S dX4_note_24 rfl 0 rfl ?_
    refine z_getF (j := (a0 + 3)) S fo_RX4_18 3 rfl rfl h_a0 dX4_note_25 ?_
    refine z_iload S dX4_note_28 4 rfl ?_
    refine z_iconst (v := 1) S dX4_note_30 (by decide) ?_
    refine z_iadd S dX4_note_31 ?_
    refine z_iload_n S dX4_note_32 rfl 1 rfl ?_
    obtain ⟨M3, h9, he⟩ := bnd he
    refine z_cNV (As := [.ref (X.2.2 (a0 + 3)), .int (x1 + 1), .int a1]) S cn_RX4_53 (K_X9_put (okf4_3 h_a0).1 h9) ⟨rfl, rfl⟩ ⟨Nat.le_of_ble_eq_true rfl, Nat.le_of_ble_eq_true rfl⟩ ⟨Nat.le_refl _, Nat.le_refl _⟩ rfl rfl (Nat.le_of_ble_eq_true rfl) dX4_note_33 ?_
    refine z_aload_n S dX4_note_36 rfl 0 rfl ?_
    refine z_getF (j := (a0 + 3)) S fo_RX4_18 3 rfl rfl h_a0 dX4_note_37 ?_
    refine z_iload S dX4_note_40 4 rfl ?_
    refine z_iconst (v := 2) S dX4_note_42 (by decide) ?_
    refine z_iadd S dX4_note_43 ?_
    refine z_iload_n S dX4_note_44 rfl 2 rfl ?_
    obtain ⟨M4, h9, he⟩ := bnd he
    refine z_cNV (As := [.ref (X.2.2 (a0 + 3)), .int (x1 + 2), .int a2]) S cn_RX4_53 (K_X9_put (okf4_3 h_a0).1 h9) ⟨rfl, rfl⟩ ⟨Nat.le_of_ble_eq_true rfl, Nat.le_of_ble_eq_true rfl⟩ ⟨Nat.le_refl _, Nat.le_refl _⟩ rfl rfl (Nat.le_of_ble_eq_true rfl) dX4_note_45 ?_
    refine z_aload_n S dX4_note_48 rfl 0 rfl ?_
    refine z_getF (j := (a0 + 3)) S fo_RX4_18 3 rfl rfl h_a0 dX4_note_49 ?_
    refine z_iload S dX4_note_52 4 rfl ?_
    refine z_iconst (v := 3) S dX4_note_54 (by decide) ?_
    refine z_iadd S dX4_note_55 ?_
    refine z_iload_n S dX4_note_56 rfl 3 rfl ?_
    obtain ⟨M5, h9, he⟩ := bnd he
    refine z_cNV (As := [.ref (X.2.2 (a0 + 3)), .int (x1 + 3), .int a3]) S cn_RX4_53 (K_X9_put (okf4_3 h_a0).1 h9) ⟨rfl, rfl⟩ ⟨Nat.le_of_ble_eq_true rfl, Nat.le_of_ble_eq_true rfl⟩ ⟨Nat.le_refl _, Nat.le_refl _⟩ rfl rfl (Nat.le_of_ble_eq_true rfl) dX4_note_57 ?_
    refine z_aload_n S dX4_note_60 rfl 0 rfl ?_
    refine z_getF (j := (a0 + 3)) S fo_RX4_18 3 rfl rfl h_a0 dX4_note_61 ?_
    refine z_iload S dX4_note_64 4 rfl ?_
    refine z_iconst (v := 4) S dX4_note_66 (by decide) ?_
    refine z_iadd S dX4_note_67 ?_
    refine z_aload_n S dX4_note_68 rfl 0 rfl ?_
    refine z_aload_n S dX4_note_69 rfl 0 rfl ?_
    refine z_iload_n S dX4_note_70 rfl 2 rfl ?_
    refine z_iconst (v := 0) S dX4_note_71 (by decide) ?_
    obtain ⟨r6, h9, he⟩ := bnd he
    refine z_cVI (As := [.int a2, .int 0]) S cv_RX4_57 (K_X4_ofThing h_a0 h9) h_a0 (by decide) (q := (RX4, TX4, 10)) rfl rfl ⟨rfl, rfl⟩ ⟨Nat.le_of_ble_eq_true rfl, Nat.le_of_ble_eq_true rfl⟩ ⟨Nat.le_refl _, Nat.le_refl _⟩ rfl rfl (Nat.le_of_ble_eq_true rfl) dX4_note_72 ?_
    obtain ⟨r7, h9, he⟩ := bnd he
    refine z_cVI (As := [.int r6]) S cv_RX4_72 (K_X4_stepOf h_a0 h9) h_a0 (by decide) (q := (RX4, TX4, 10)) rfl rfl ⟨rfl, rfl⟩ ⟨Nat.le_of_ble_eq_true rfl, Nat.le_of_ble_eq_true rfl⟩ ⟨Nat.le_refl _, Nat.le_refl _⟩ rfl rfl (Nat.le_of_ble_eq_true rfl) dX4_note_75 ?_
    obtain ⟨M8, h9, he⟩ := bnd he
    refine z_cNV (As := [.ref (X.2.2 (a0 + 3)), .int (x1 + 4), .int r7]) S cn_RX4_53 (K_X9_put (okf4_3 h_a0).1 h9) ⟨rfl, rfl⟩ ⟨Nat.le_of_ble_eq_true rfl, Nat.le_of_ble_eq_true rfl⟩ ⟨Nat.le_refl _, Nat.le_refl _⟩ rfl rfl (Nat.le_of_ble_eq_true rfl) dX4_note_78 ?_
    refine z_aload_n S dX4_note_81 rfl 0 rfl ?_
    refine z_dup S rfl dX4_note_82 ?_
    refine z_getI S fo_RX4_46 rfl h_a0 dX4_note_83 ?_
    refine z_iconst (v := 1) S dX4_note_86 (by decide) ?_
    refine z_iadd S dX4_note_87 ?_
    refine z_putIb S fo_RX4_46p rfl h_a0 rfl rfl he dX4_note_88 (fun M9 he => ?_)
    exact z_vret S (Option.some.inj he) dX4_note_91
set_option maxRecDepth 100000 in
set_option maxHeartbeats 4000000 in
theorem p_X6_hadBy_L4 {X : Cx} {p : Program} {l : Launch} {e : Env} {s : State} {m : MethodId} {args : Array Value} {below : List Frame} {meth : Method} {c : Code} (S : SB X 0 p s m args meth c cX6_hadBy 4 (some .int) RX6) {M : Mm} {r : Int32} {v1 : Int32} {v2 : Int32} {v3 : Int32} {x : (Int32 × Int32) ⊕ Int32}  (he : f_X6_hadBy_L4 M v1 v2 v3 = some x) (hc : ∀ b, x = .inl b → Z X 0 p l e rm_X6_hadBy s m args below meth c 0 0 (MQ below (QI X 0 r M s.heap.size) args s 0 0 (AA X 0 s.heap.size)) 4 M 4 [(0, .ref (X.2.2 82)), (1, .int v1), (2, .int b.1), (3, .int b.2)] []) (hx : ∀ b, x = .inr b → Z X 0 p l e rm_X6_hadBy s m args below meth c 0 0 (MQ below (QI X 0 r M s.heap.size) args s 0 0 (AA X 0 s.heap.size)) 4 M 34 [(2, .int b)] []) : Z X 0 p l e rm_X6_hadBy s m args below meth c 0 0 (MQ below (QI X 0 r M s.heap.size) args s 0 0 (AA X 0 s.heap.size)) 4 M 4 [(0, .ref (X.2.2 82)), (1, .int v1), (2, .int v2), (3, .int v3)] [] := by
  unfold f_X6_hadBy_L4 at he
  refine z_iload_n S dX6_hadBy_4 rfl 3 rfl ?_
  refine z_bipush (v := 10) S dX6_hadBy_5 (by decide) ?_
  refine z_icmp_ge (tgt := 34) S he dX6_hadBy_7 (by decide) (fun he => ?_) (fun he => ?_)
  · refine z_lv (ks := [2]) rfl ?_
    exact hx _ (Option.some.inj he).symm
  · refine z_aload_n S dX6_hadBy_10 rfl 0 rfl ?_
    refine z_getF (j := 85) S fo_RX6_18 3 rfl rfl ok_82 dX6_hadBy_11 ?_
    refine z_iload_n S dX6_hadBy_14 rfl 3 rfl ?_
    obtain ⟨r1, h9, he⟩ := bnd he
    refine z_cNI (As := [.ref (X.2.2 85), .int v3]) S cn_RX6_55 (K_X9_at ok_85 h9) ⟨rfl, rfl⟩ ⟨Nat.le_of_ble_eq_true rfl, Nat.le_of_ble_eq_true rfl⟩ ⟨Nat.le_refl _, Nat.le_refl _⟩ rfl rfl (Nat.le_of_ble_eq_true rfl) dX6_hadBy_15 ?_
    refine z_iload_n S dX6_hadBy_18 rfl 1 rfl ?_
    refine z_icmp_ne (tgt := 28) S he dX6_hadBy_19 (by decide) (fun he => ?_) (fun he => ?_)
    · refine z_iinc (v := (v3 + 1)) (lv' := [(0, .ref (X.2.2 82)), (1, .int v1), (2, .int v2), (3, .int (v3 + 1))]) S [1, 2, 3, 0] 3 dX6_hadBy_28 rfl (by rfl) (by decide) rfl ?_
      refine z_goto (tgt := 4) S dX6_hadBy_31 (by decide) ?_
      refine z_lv (ks := [0, 1, 2, 3]) rfl ?_
      exact hc _ (Option.some.inj he).symm
    · refine z_iload_n S dX6_hadBy_22 rfl 2 rfl ?_
      refine z_iconst (v := 1) S dX6_hadBy_23 (by decide) ?_
      refine z_iload_n S dX6_hadBy_24 rfl 3 rfl ?_
      refine z_ishl S dX6_hadBy_25 ?_
      refine z_ior S dX6_hadBy_26 ?_
      obtain ⟨x2, ex2, he⟩ := bnd he
      rw [Option.some.inj ex2]
      refine z_istore_n (lv' := [(0, .ref (X.2.2 82)), (1, .int v1), (2, .int x2), (3, .int v3)]) S [1, 2, 0, 3] dX6_hadBy_27 rfl (by decide) rfl ?_
      refine z_iinc (v := (v3 + 1)) (lv' := [(0, .ref (X.2.2 82)), (1, .int v1), (2, .int x2), (3, .int (v3 + 1))]) S [1, 2, 3, 0] 3 dX6_hadBy_28 rfl (by rfl) (by decide) rfl ?_
      refine z_goto (tgt := 4) S dX6_hadBy_31 (by decide) ?_
      refine z_lv (ks := [0, 1, 2, 3]) rfl ?_
      exact hc _ (Option.some.inj he).symm
set_option maxRecDepth 100000 in
set_option maxHeartbeats 4000000 in
theorem K_X6_hadBy {X : Cx} {l : Launch} {M : Mm} {a1 : Int32} {r : Int32}  (he : f_X6_hadBy M a1 = some r) : KI X 0 l yX6_hadBy (wz yX6_hadBy cX6_hadBy 4 (some .int)) rm_X6_hadBy [.ref (X.2.2 82), .int a1] M r M := by
  intro sz
  refine K_of (Qc := (fun sz => QI X 0 r M sz)) (own := RX6) (lv0 := [(0, .ref (X.2.2 82)), (1, .int a1)]) (by decide +kernel) rfl (Nat.le_of_ble_eq_true rfl) rfl (fun p e s m args below meth c S => ?_) sz
  · unfold f_X6_hadBy at he
    refine z_iconst (v := 0) S dX6_hadBy_0 (by decide) ?_
    refine z_istore_n (lv' := [(0, .ref (X.2.2 82)), (1, .int a1), (2, .int 0)]) S [1, 2, 0] dX6_hadBy_1 rfl (by decide) rfl ?_
    refine z_iconst (v := 0) S dX6_hadBy_2 (by decide) ?_
    refine z_istore_n (lv' := [(0, .ref (X.2.2 82)), (1, .int a1), (2, .int 0), (3, .int 0)]) S [1, 2, 3, 0] dX6_hadBy_3 rfl (by decide) rfl ?_
    obtain ⟨e_3, hl, he⟩ := bnd he
    have hX : Z X 0 p l e rm_X6_hadBy s m args below meth c 0 0 (MQ below (QI X 0 r M s.heap.size) args s 0 0 (AA X 0 s.heap.size)) 4 M 34 [(2, .int e_3)] [] := by
      refine z_iload_n S dX6_hadBy_34 rfl 0 rfl ?_
      exact z_iret S (⟨Option.some.inj he, rfl⟩) dX6_hadBy_35
    exact loopZ (Zh := (fun a_3 => Z X 0 p l e rm_X6_hadBy s m args below meth c 0 0 (MQ below (QI X 0 r M s.heap.size) args s 0 0 (AA X 0 s.heap.size)) 4 M 4 [(0, .ref (X.2.2 82)), (1, .int a1), (2, .int a_3.1), (3, .int a_3.2)] [])) (fun a_3 x hb hc hr => p_X6_hadBy_L4 S  hb hc (fun b hxe => by rw [hr b hxe]; exact hX)) FU _ hl
set_option maxRecDepth 100000 in
set_option maxHeartbeats 4000000 in
theorem K_X4_setThing {X : Cx} {l : Launch} {M : Mm} {a0 : Nat} {a1 : Int32} {a2 : Int32} {a3 : Int32} {N : Mm} (h_a0 : OK 0 a0 4) (he : f_X4_setThing M a0 a1 a2 a3 = some N) : KV X 0 l yX4_setThing (wz yX4_setThing cX4_setThing 4 none) rm_X4_setThing [.ref (X.2.2 a0), .int a1, .int a2, .int a3] M N := by
  intro sz
  refine K_of (Qc := (fun sz => QV X 0 N sz)) (own := RX4) (lv0 := [(0, .ref (X.2.2 a0)), (1, .int a1), (2, .int a2), (3, .int a3)]) (by decide +kernel) rfl (Nat.le_of_ble_eq_true rfl) rfl (fun p e s m args below meth c S => ?_) sz
  · unfold f_X4_setThing at he
    refine z_aload_n S dX4_setThing_0 rfl 0 rfl ?_
    refine z_getF (j := (a0 + 1)) S fo_RX4_9 1 rfl rfl h_a0 dX4_setThing_1 ?_
    refine z_iload_n S dX4_setThing_4 rfl 1 rfl ?_
    refine z_iconst (v := 5) S dX4_setThing_5 (by decide) ?_
    refine z_imul S dX4_setThing_6 ?_
    refine z_iload_n S dX4_setThing_7 rfl 2 rfl ?_
    refine z_iadd S dX4_setThing_8 ?_
    refine z_iload_n S dX4_setThing_9 rfl 3 rfl ?_
    obtain ⟨M1, h9, he⟩ := bnd he
    refine z_cNV (As := [.ref (X.2.2 (a0 + 1)), .int ((a1 * 5) + a2), .int a3]) S cn_RX4_53 (K_X9_put (okf4_1 h_a0).1 h9) ⟨rfl, rfl⟩ ⟨Nat.le_of_ble_eq_true rfl, Nat.le_of_ble_eq_true rfl⟩ ⟨Nat.le_refl _, Nat.le_refl _⟩ rfl rfl (Nat.le_of_ble_eq_true rfl) dX4_setThing_10 ?_
    exact z_vret S (Option.some.inj he) dX4_setThing_13
set_option maxRecDepth 100000 in
set_option maxHeartbeats 4000000 in
theorem p_X6_passDay_L17 {X : Cx} {p : Program} {l : Launch} {e : Env} {s : State} {m : MethodId} {args : Array Value} {below : List Frame} {meth : Method} {c : Code} (S : SB X 0 p s m args meth c cX6_passDay 7 (some .int) RX6) {M : Mm} {N : Mm} {r : Int32} {v1 : Nat} {v4 : Int32} {v5 : Int32} {x : (Mm × Int32) ⊕ Mm} (h_v1 : OK 0 v1 4) (he : f_X6_passDay_L17 M v1 v4 v5 = some x) (hc : ∀ b, x = .inl b → Z X 0 p l e rm_X6_passDay s m args below meth c 0 0 (MQ below (QI X 0 r N s.heap.size) args s 0 0 (AA X 0 s.heap.size)) 7 b.1 17 [(0, .ref (X.2.2 82)), (1, .ref (X.2.2 v1)), (4, .int v4), (5, .int b.2)] []) (hx : ∀ b, x = .inr b → Z X 0 p l e rm_X6_passDay s m args below meth c 0 0 (MQ below (QI X 0 r N s.heap.size) args s 0 0 (AA X 0 s.heap.size)) 7 b 65 [(0, .ref (X.2.2 82)), (1, .ref (X.2.2 v1)), (4, .int v4)] []) : Z X 0 p l e rm_X6_passDay s m args below meth c 0 0 (MQ below (QI X 0 r N s.heap.size) args s 0 0 (AA X 0 s.heap.size)) 7 M 17 [(0, .ref (X.2.2 82)), (1, .ref (X.2.2 v1)), (4, .int v4), (5, .int v5)] [] := by
  unfold f_X6_passDay_L17 at he
  refine z_iload S dX6_passDay_17 3 rfl ?_
  refine z_aload_n S dX6_passDay_19 rfl 1 rfl ?_
  refine z_getI S fo_RX6_30 rfl h_v1 dX6_passDay_20 ?_
  refine z_icmp_ge (tgt := 65) S he dX6_passDay_23 (by decide) (fun he => ?_) (fun he => ?_)
  · refine z_lv (ks := [0, 1, 2]) rfl ?_
    exact hx _ (Option.some.inj he).symm
  · refine z_aload_n S dX6_passDay_26 rfl 0 rfl ?_
    refine z_getF (j := 85) S fo_RX6_18 3 rfl rfl ok_82 dX6_passDay_27 ?_
    refine z_iload S dX6_passDay_30 3 rfl ?_
    obtain ⟨r4, h9, he⟩ := bnd he
    refine z_cNI (As := [.ref (X.2.2 85), .int v5]) S cn_RX6_55 (K_X9_at ok_85 h9) ⟨rfl, rfl⟩ ⟨Nat.le_of_ble_eq_true rfl, Nat.le_of_ble_eq_true rfl⟩ ⟨Nat.le_refl _, Nat.le_refl _⟩ rfl rfl (Nat.le_of_ble_eq_true rfl) dX6_passDay_32 ?_
    refine z_istore (lv' := [(0, .ref (X.2.2 82)), (1, .ref (X.2.2 v1)), (4, .int v4), (5, .int v5), (6, .int r4)]) S [1, 2, 3, 4, 0] dX6_passDay_35 (by decide) rfl ?_
    refine z_iload S dX6_passDay_37 4 rfl ?_
    refine z_iconst (v := (-1)) S dX6_passDay_39 (by decide) ?_
    refine z_icmp_eq (tgt := 59) S he dX6_passDay_40 (by decide) (fun he => ?_) (fun he => ?_)
    · refine z_iinc (v := (v5 + 1)) (lv' := [(0, .ref (X.2.2 82)), (1, .ref (X.2.2 v1)), (4, .int v4), (5, .int (v5 + 1)), (6, .int r4)]) S [1, 2, 3, 0, 4] 3 dX6_passDay_59 rfl (by rfl) (by decide) rfl ?_
      refine z_goto (tgt := 17) S dX6_passDay_62 (by decide) ?_
      refine z_lv (ks := [0, 1, 2, 3]) rfl ?_
      exact hc _ (Option.some.inj he).symm
    · refine z_aload_n S dX6_passDay_43 rfl 1 rfl ?_
      refine z_iload S dX6_passDay_44 3 rfl ?_
      refine z_iload S dX6_passDay_46 4 rfl ?_
      refine z_aload_n S dX6_passDay_48 rfl 0 rfl ?_
      refine z_iload S dX6_passDay_49 4 rfl ?_
      refine z_iload S dX6_passDay_51 3 rfl ?_
      obtain ⟨r5, h9, he⟩ := bnd he
      refine z_cVI (As := [.int r4, .int v5]) S cv_RX6_47 (K_X6_likes  h9) ok_82 (by decide) (q := (RX6, TX6, 4)) rfl rfl ⟨rfl, rfl⟩ ⟨Nat.le_of_ble_eq_true rfl, Nat.le_of_ble_eq_true rfl⟩ ⟨Nat.le_refl _, Nat.le_refl _⟩ rfl rfl (Nat.le_of_ble_eq_true rfl) dX6_passDay_53 ?_
      obtain ⟨M6, h9, he⟩ := bnd he
      refine z_cVV (As := [.int v5, .int r4, .int r5]) S cv_RX6_91 (K_X4_note h_v1 h9) h_v1 (by decide) (q := (RX4, TX4, 10)) rfl rfl ⟨rfl, rfl⟩ ⟨Nat.le_of_ble_eq_true rfl, Nat.le_of_ble_eq_true rfl⟩ ⟨Nat.le_refl _, Nat.le_refl _⟩ rfl rfl (Nat.le_of_ble_eq_true rfl) dX6_passDay_56 ?_
      refine z_iinc (v := (v5 + 1)) (lv' := [(0, .ref (X.2.2 82)), (1, .ref (X.2.2 v1)), (4, .int v4), (5, .int (v5 + 1)), (6, .int r4)]) S [1, 2, 3, 0, 4] 3 dX6_passDay_59 rfl (by rfl) (by decide) rfl ?_
      refine z_goto (tgt := 17) S dX6_passDay_62 (by decide) ?_
      refine z_lv (ks := [0, 1, 2, 3]) rfl ?_
      exact hc _ (Option.some.inj he).symm
set_option maxRecDepth 100000 in
set_option maxHeartbeats 4000000 in
theorem p_X6_passDay_J68_123 {X : Cx} {p : Program} {l : Launch} {e : Env} {s : State} {m : MethodId} {args : Array Value} {below : List Frame} {meth : Method} {c : Code} (S : SB X 0 p s m args meth c cX6_passDay 7 (some .int) RX6) {M : Mm} {N : Mm} {r : Int32} {v1 : Nat} {v4 : Int32} {v5 : Int32} {t0 : Int32} {t1 : Int32} {t2 : Int32} {t3 : Nat} {x : (Mm × Int32) ⊕ Mm} (h_v1 : OK 0 v1 4) (h_t3 : OK 0 t3 4) (he : f_X6_passDay_J68_123 M v1 v4 v5 t0 t1 t2 t3 = some x) (hc : ∀ b, x = .inl b → Z X 0 p l e rm_X6_passDay s m args below meth c 0 0 (MQ below (QI X 0 r N s.heap.size) args s 0 0 (AA X 0 s.heap.size)) 7 b.1 68 [(0, .ref (X.2.2 82)), (1, .ref (X.2.2 v1)), (4, .int v4), (5, .int b.2)] []) (hx : ∀ b, x = .inr b → Z X 0 p l e rm_X6_passDay s m args below meth c 0 0 (MQ below (QI X 0 r N s.heap.size) args s 0 0 (AA X 0 s.heap.size)) 7 b 132 [(1, .ref (X.2.2 v1)), (4, .int v4)] []) : Z X 0 p l e rm_X6_passDay s m args below meth c 0 0 (MQ below (QI X 0 r N s.heap.size) args s 0 0 (AA X 0 s.heap.size)) 7 M 123 [(0, .ref (X.2.2 82)), (1, .ref (X.2.2 v1)), (4, .int v4), (5, .int v5)] [.int t0, .int t1, .int t2, .ref (X.2.2 t3)] := by
  unfold f_X6_passDay_J68_123 at he
  obtain ⟨M11, h9, he⟩ := bnd he
  refine z_cVV (As := [.int t2, .int t1, .int t0]) S cv_RX6_103 (K_X4_setThing h_t3 h9) h_t3 (by decide) (q := (RX4, TX4, 10)) rfl rfl ⟨rfl, rfl⟩ ⟨Nat.le_of_ble_eq_true rfl, Nat.le_of_ble_eq_true rfl⟩ ⟨Nat.le_refl _, Nat.le_refl _⟩ rfl rfl (Nat.le_of_ble_eq_true rfl) dX6_passDay_123 ?_
  refine z_iinc (v := (v5 + 1)) (lv' := [(0, .ref (X.2.2 82)), (1, .ref (X.2.2 v1)), (4, .int v4), (5, .int (v5 + 1))]) S [1, 2, 3, 0] 3 dX6_passDay_126 rfl (by rfl) (by decide) rfl ?_
  refine z_goto (tgt := 68) S dX6_passDay_129 (by decide) ?_
  refine z_lv (ks := [0, 1, 2, 3]) rfl ?_
  exact hc _ (Option.some.inj he).symm
set_option maxRecDepth 100000 in
set_option maxHeartbeats 4000000 in
theorem p_X6_passDay_L68 {X : Cx} {p : Program} {l : Launch} {e : Env} {s : State} {m : MethodId} {args : Array Value} {below : List Frame} {meth : Method} {c : Code} (S : SB X 0 p s m args meth c cX6_passDay 7 (some .int) RX6) {M : Mm} {N : Mm} {r : Int32} {v1 : Nat} {v4 : Int32} {v5 : Int32} {x : (Mm × Int32) ⊕ Mm} (h_v1 : OK 0 v1 4) (he : f_X6_passDay_L68 M v1 v4 v5 = some x) (hc : ∀ b, x = .inl b → Z X 0 p l e rm_X6_passDay s m args below meth c 0 0 (MQ below (QI X 0 r N s.heap.size) args s 0 0 (AA X 0 s.heap.size)) 7 b.1 68 [(0, .ref (X.2.2 82)), (1, .ref (X.2.2 v1)), (4, .int v4), (5, .int b.2)] []) (hx : ∀ b, x = .inr b → Z X 0 p l e rm_X6_passDay s m args below meth c 0 0 (MQ below (QI X 0 r N s.heap.size) args s 0 0 (AA X 0 s.heap.size)) 7 b 132 [(1, .ref (X.2.2 v1)), (4, .int v4)] []) : Z X 0 p l e rm_X6_passDay s m args below meth c 0 0 (MQ below (QI X 0 r N s.heap.size) args s 0 0 (AA X 0 s.heap.size)) 7 M 68 [(0, .ref (X.2.2 82)), (1, .ref (X.2.2 v1)), (4, .int v4), (5, .int v5)] [] := by
  unfold f_X6_passDay_L68 at he
  refine z_iload S dX6_passDay_68 3 rfl ?_
  refine z_aload_n S dX6_passDay_70 rfl 1 rfl ?_
  refine z_getI S fo_RX6_24 rfl h_v1 dX6_passDay_71 ?_
  refine z_icmp_ge (tgt := 132) S he dX6_passDay_74 (by decide) (fun he => ?_) (fun he => ?_)
  · refine z_lv (ks := [1, 2]) rfl ?_
    exact hx _ (Option.some.inj he).symm
  · refine z_aload_n S dX6_passDay_77 rfl 1 rfl ?_
    refine z_iload S dX6_passDay_78 3 rfl ?_
    refine z_iconst (v := 3) S dX6_passDay_80 (by decide) ?_
    obtain ⟨r8, h9, he⟩ := bnd he
    refine z_cVI (As := [.int v5, .int 3]) S cv_RX6_65 (K_X4_ofThing h_v1 h9) h_v1 (by decide) (q := (RX4, TX4, 10)) rfl rfl ⟨rfl, rfl⟩ ⟨Nat.le_of_ble_eq_true rfl, Nat.le_of_ble_eq_true rfl⟩ ⟨Nat.le_refl _, Nat.le_refl _⟩ rfl rfl (Nat.le_of_ble_eq_true rfl) dX6_passDay_81 ?_
    refine z_iconst (v := 1) S dX6_passDay_84 (by decide) ?_
    refine z_icmp_ne (tgt := 126) S he dX6_passDay_85 (by decide) (fun he => ?_) (fun he => ?_)
    · refine z_iinc (v := (v5 + 1)) (lv' := [(0, .ref (X.2.2 82)), (1, .ref (X.2.2 v1)), (4, .int v4), (5, .int (v5 + 1))]) S [1, 2, 3, 0] 3 dX6_passDay_126 rfl (by rfl) (by decide) rfl ?_
      refine z_goto (tgt := 68) S dX6_passDay_129 (by decide) ?_
      refine z_lv (ks := [0, 1, 2, 3]) rfl ?_
      exact hc _ (Option.some.inj he).symm
    · refine z_aload_n S dX6_passDay_88 rfl 1 rfl ?_
      refine z_iload S dX6_passDay_89 3 rfl ?_
      refine z_iconst (v := 4) S dX6_passDay_91 (by decide) ?_
      obtain ⟨r9, h9, he⟩ := bnd he
      refine z_cVI (As := [.int v5, .int 4]) S cv_RX6_65 (K_X4_ofThing h_v1 h9) h_v1 (by decide) (q := (RX4, TX4, 10)) rfl rfl ⟨rfl, rfl⟩ ⟨Nat.le_of_ble_eq_true rfl, Nat.le_of_ble_eq_true rfl⟩ ⟨Nat.le_refl _, Nat.le_refl _⟩ rfl rfl (Nat.le_of_ble_eq_true rfl) dX6_passDay_92 ?_
      refine z_iconst (v := 1) S dX6_passDay_95 (by decide) ?_
      refine z_iadd S dX6_passDay_96 ?_
      refine z_bipush (v := 99) S dX6_passDay_97 (by decide) ?_
      refine z_mmin S cm_RX6_95 (Nat.le_of_ble_eq_true rfl) (Nat.le_of_ble_eq_true rfl) ⟨Nat.le_refl _, Nat.le_refl _⟩ dX6_passDay_99 ?_
      refine z_istore (lv' := [(0, .ref (X.2.2 82)), (1, .ref (X.2.2 v1)), (4, .int v4), (5, .int v5), (6, .int (mn (r9 + 1) 99))]) S [1, 2, 3, 4, 0] dX6_passDay_102 (by decide) rfl ?_
      refine z_aload_n S dX6_passDay_104 rfl 1 rfl ?_
      refine z_iload S dX6_passDay_105 3 rfl ?_
      refine z_iconst (v := 4) S dX6_passDay_107 (by decide) ?_
      refine z_aload_n S dX6_passDay_108 rfl 0 rfl ?_
      refine z_iload S dX6_passDay_109 3 rfl ?_
      obtain ⟨r10, h9, he⟩ := bnd he
      refine z_cVI (As := [.int v5]) S cv_RX6_100 (K_X6_hadBy  h9) ok_82 (by decide) (q := (RX6, TX6, 4)) rfl rfl ⟨rfl, rfl⟩ ⟨Nat.le_of_ble_eq_true rfl, Nat.le_of_ble_eq_true rfl⟩ ⟨Nat.le_refl _, Nat.le_refl _⟩ rfl rfl (Nat.le_of_ble_eq_true rfl) dX6_passDay_111 ?_
      refine z_if_eq (tgt := 121) S he dX6_passDay_114 (by decide) (fun he => ?_) (fun he => ?_)
      · refine z_iload S dX6_passDay_121 4 rfl ?_
        refine z_lv (ks := [0, 1, 2, 3]) rfl ?_
        exact p_X6_passDay_J68_123 S h_v1 h_v1 he hc hx
      · refine z_iconst (v := 0) S dX6_passDay_117 (by decide) ?_
        refine z_goto (tgt := 123) S dX6_passDay_118 (by decide) ?_
        refine z_lv (ks := [0, 1, 2, 3]) rfl ?_
        exact p_X6_passDay_J68_123 S h_v1 h_v1 he hc hx
set_option maxRecDepth 100000 in
set_option maxHeartbeats 4000000 in
theorem K_X6_passDay {X : Cx} {l : Launch} {M : Mm} {a1 : Nat} {a2 : Nat} {a3 : Int32} {r : Int32} {N : Mm} (h_a1 : OK 0 a1 4) (h_a2 : OK 0 a2 2) (he : f_X6_passDay M a1 a2 a3 = some (r, N)) : KI X 0 l yX6_passDay (wz yX6_passDay cX6_passDay 7 (some .int)) rm_X6_passDay [.ref (X.2.2 82), .ref (X.2.2 a1), .ref (X.2.2 a2), .int a3] M r N := by
  intro sz
  refine K_of (Qc := (fun sz => QI X 0 r N sz)) (own := RX6) (lv0 := [(0, .ref (X.2.2 82)), (1, .ref (X.2.2 a1)), (2, .ref (X.2.2 a2)), (3, .int a3)]) (by decide +kernel) rfl (Nat.le_of_ble_eq_true rfl) rfl (fun p e s m args below meth c S => ?_) sz
  · unfold f_X6_passDay at he
    refine z_aload_n S dX6_passDay_0 rfl 0 rfl ?_
    refine z_aload_n S dX6_passDay_1 rfl 1 rfl ?_
    refine z_aload_n S dX6_passDay_2 rfl 2 rfl ?_
    obtain ⟨M1, h9, he⟩ := bnd he
    refine z_cVV (As := [.ref (X.2.2 a1), .ref (X.2.2 a2)]) S cv_RX6_83 (K_X6_weigh h_a1 h_a2 h9) ok_82 (by decide) (q := (RX6, TX6, 4)) rfl rfl ⟨rfl, rfl⟩ ⟨Nat.le_of_ble_eq_true rfl, Nat.le_of_ble_eq_true rfl⟩ ⟨Nat.le_refl _, Nat.le_refl _⟩ rfl rfl (Nat.le_of_ble_eq_true rfl) dX6_passDay_3 ?_
    refine z_aload_n S dX6_passDay_6 rfl 0 rfl ?_
    refine z_aload_n S dX6_passDay_7 rfl 1 rfl ?_
    refine z_iload_n S dX6_passDay_8 rfl 3 rfl ?_
    obtain ⟨⟨r2, M3⟩, h9, he⟩ := bnd he
    dsimp only at he
    refine z_cVI (As := [.ref (X.2.2 a1), .int a3]) S cv_RX6_87 (K_X6_lead h_a1 h9) ok_82 (by decide) (q := (RX6, TX6, 4)) rfl rfl ⟨rfl, rfl⟩ ⟨Nat.le_of_ble_eq_true rfl, Nat.le_of_ble_eq_true rfl⟩ ⟨Nat.le_refl _, Nat.le_refl _⟩ rfl rfl (Nat.le_of_ble_eq_true rfl) dX6_passDay_9 ?_
    refine z_istore (lv' := [(0, .ref (X.2.2 82)), (1, .ref (X.2.2 a1)), (4, .int r2)]) S [1, 2, 0] dX6_passDay_12 (by decide) rfl ?_
    refine z_iconst (v := 0) S dX6_passDay_14 (by decide) ?_
    refine z_istore (lv' := [(0, .ref (X.2.2 82)), (1, .ref (X.2.2 a1)), (4, .int r2), (5, .int 0)]) S [1, 2, 3, 0] dX6_passDay_15 (by decide) rfl ?_
    obtain ⟨e_7, hl, he⟩ := bnd he
    have hX : Z X 0 p l e rm_X6_passDay s m args below meth c 0 0 (MQ below (QI X 0 r N s.heap.size) args s 0 0 (AA X 0 s.heap.size)) 7 e_7 65 [(0, .ref (X.2.2 82)), (1, .ref (X.2.2 a1)), (4, .int r2)] [] := by
      refine z_iconst (v := 0) S dX6_passDay_65 (by decide) ?_
      refine z_istore (lv' := [(0, .ref (X.2.2 82)), (1, .ref (X.2.2 a1)), (4, .int r2), (5, .int 0)]) S [1, 2, 3, 0] dX6_passDay_66 (by decide) rfl ?_
      obtain ⟨e_12, hl, he⟩ := bnd he
      have hX : Z X 0 p l e rm_X6_passDay s m args below meth c 0 0 (MQ below (QI X 0 r N s.heap.size) args s 0 0 (AA X 0 s.heap.size)) 7 e_12 132 [(1, .ref (X.2.2 a1)), (4, .int r2)] [] := by
        refine z_aload_n S dX6_passDay_132 rfl 0 rfl ?_
        refine z_dup S rfl dX6_passDay_133 ?_
        refine z_getI S fo_RX6_106 rfl h_a1 dX6_passDay_134 ?_
        refine z_iconst (v := 1) S dX6_passDay_137 (by decide) ?_
        refine z_iadd S dX6_passDay_138 ?_
        refine z_putIb S fo_RX6_106p rfl h_a1 rfl rfl he dX6_passDay_139 (fun M13 he => ?_)
        refine z_iload S dX6_passDay_142 1 rfl ?_
        exact z_iret S (Prod.mk.inj (Option.some.inj he)) dX6_passDay_144
      exact loopZ (Zh := (fun a_12 => Z X 0 p l e rm_X6_passDay s m args below meth c 0 0 (MQ below (QI X 0 r N s.heap.size) args s 0 0 (AA X 0 s.heap.size)) 7 a_12.1 68 [(0, .ref (X.2.2 82)), (1, .ref (X.2.2 a1)), (4, .int r2), (5, .int a_12.2)] [])) (fun a_12 x hb hc hr => p_X6_passDay_L68 S h_a1 hb hc (fun b hxe => by rw [hr b hxe]; exact hX)) FU _ hl
    exact loopZ (Zh := (fun a_7 => Z X 0 p l e rm_X6_passDay s m args below meth c 0 0 (MQ below (QI X 0 r N s.heap.size) args s 0 0 (AA X 0 s.heap.size)) 7 a_7.1 17 [(0, .ref (X.2.2 82)), (1, .ref (X.2.2 a1)), (4, .int r2), (5, .int a_7.2)] [])) (fun a_7 x hb hc hr => p_X6_passDay_L17 S h_a1 hb hc (fun b hxe => by rw [hr b hxe]; exact hX)) FU _ hl
set_option maxRecDepth 100000 in
set_option maxHeartbeats 4000000 in
theorem p_X9_forgetOldest_L9 {X : Cx} {p : Program} {l : Launch} {e : Env} {s : State} {m : MethodId} {args : Array Value} {below : List Frame} {meth : Method} {c : Code} (S : SB X 0 p s m args meth c cX9_forgetOldest 3 none RX9) {M : Mm} {N : Mm} {v1 : Nat} {v2 : Int32} {x : (Mm × Int32) ⊕ Mm} (h_v1 : OK 0 v1 4) (he : f_X9_forgetOldest_L9 M v1 v2 = some x) (hc : ∀ b, x = .inl b → Z X 0 p l e rm_X9_forgetOldest s m args below meth c 0 0 (MQ below (QV X 0 N s.heap.size) args s 0 0 (AA X 0 s.heap.size)) 3 b.1 9 [(0, .ref (X.2.2 1)), (1, .ref (X.2.2 v1)), (2, .int b.2)] []) (hx : ∀ b, x = .inr b → Z X 0 p l e rm_X9_forgetOldest s m args below meth c 0 0 (MQ below (QV X 0 N s.heap.size) args s 0 0 (AA X 0 s.heap.size)) 3 b 38 [(0, .ref (X.2.2 1)), (1, .ref (X.2.2 v1))] []) : Z X 0 p l e rm_X9_forgetOldest s m args below meth c 0 0 (MQ below (QV X 0 N s.heap.size) args s 0 0 (AA X 0 s.heap.size)) 3 M 9 [(0, .ref (X.2.2 1)), (1, .ref (X.2.2 v1)), (2, .int v2)] [] := by
  unfold f_X9_forgetOldest_L9 at he
  refine z_iload_n S dX9_forgetOldest_9 rfl 2 rfl ?_
  refine z_aload_n S dX9_forgetOldest_10 rfl 0 rfl ?_
  refine z_getF (j := 3) S fo_RX9_43 2 rfl rfl ok_1 dX9_forgetOldest_11 ?_
  refine z_alen (v := 12) S ok_3 (cel_m ok_3.2.2) rfl rfl rfl dX9_forgetOldest_14 ?_
  refine z_icmp_ge (tgt := 38) S he dX9_forgetOldest_15 (by decide) (fun he => ?_) (fun he => ?_)
  · refine z_lv (ks := [0, 1]) rfl ?_
    exact hx _ (Option.some.inj he).symm
  · refine z_aload_n S dX9_forgetOldest_18 rfl 0 rfl ?_
    refine z_getF (j := 3) S fo_RX9_43 2 rfl rfl ok_1 dX9_forgetOldest_19 ?_
    refine z_iload_n S dX9_forgetOldest_22 rfl 2 rfl ?_
    refine z_iconst (v := 1) S dX9_forgetOldest_23 (by decide) ?_
    refine z_isub S dX9_forgetOldest_24 ?_
    refine z_aload_n S dX9_forgetOldest_25 rfl 0 rfl ?_
    refine z_getF (j := 3) S fo_RX9_43 2 rfl rfl ok_1 dX9_forgetOldest_26 ?_
    refine z_iload_n S dX9_forgetOldest_29 rfl 2 rfl ?_
    refine z_mald S ok_3 rfl he dX9_forgetOldest_30 (fun q2 hq2 he => ?_)
    refine z_mast S ok_3 rfl (okk4 hq2) he dX9_forgetOldest_31 (fun M3 he => ?_)
    refine z_iinc (v := (v2 + 1)) (lv' := [(0, .ref (X.2.2 1)), (1, .ref (X.2.2 v1)), (2, .int (v2 + 1))]) S [1, 2, 0] 2 dX9_forgetOldest_32 rfl (by rfl) (by decide) rfl ?_
    refine z_goto (tgt := 9) S dX9_forgetOldest_35 (by decide) ?_
    refine z_lv (ks := [0, 1, 2]) rfl ?_
    exact hc _ (Option.some.inj he).symm
set_option maxRecDepth 100000 in
set_option maxHeartbeats 4000000 in
theorem K_X9_forgetOldest {X : Cx} {l : Launch} {M : Mm} {N : Mm}  (he : f_X9_forgetOldest M  = some N) : KV X 0 l yX9_forgetOldest (wz yX9_forgetOldest cX9_forgetOldest 3 none) rm_X9_forgetOldest [.ref (X.2.2 1)] M N := by
  intro sz
  refine K_of (Qc := (fun sz => QV X 0 N sz)) (own := RX9) (lv0 := [(0, .ref (X.2.2 1))]) (by decide +kernel) rfl (Nat.le_of_ble_eq_true rfl) rfl (fun p e s m args below meth c S => ?_) sz
  · unfold f_X9_forgetOldest at he
    refine z_aload_n S dX9_forgetOldest_0 rfl 0 rfl ?_
    refine z_getF (j := 3) S fo_RX9_43 2 rfl rfl ok_1 dX9_forgetOldest_1 ?_
    refine z_iconst (v := 0) S dX9_forgetOldest_4 (by decide) ?_
    refine z_mald S ok_3 rfl he dX9_forgetOldest_5 (fun q1 hq1 he => ?_)
    refine z_astore_n (lv' := [(0, .ref (X.2.2 1)), (1, .ref (X.2.2 q1))]) S [1, 0] dX9_forgetOldest_6 rfl (by decide) rfl ?_
    refine z_iconst (v := 1) S dX9_forgetOldest_7 (by decide) ?_
    refine z_istore_n (lv' := [(0, .ref (X.2.2 1)), (1, .ref (X.2.2 q1)), (2, .int 1)]) S [1, 2, 0] dX9_forgetOldest_8 rfl (by decide) rfl ?_
    obtain ⟨e_4, hl, he⟩ := bnd he
    have hX : Z X 0 p l e rm_X9_forgetOldest s m args below meth c 0 0 (MQ below (QV X 0 N s.heap.size) args s 0 0 (AA X 0 s.heap.size)) 3 e_4 38 [(0, .ref (X.2.2 1)), (1, .ref (X.2.2 q1))] [] := by
      refine z_aload_n S dX9_forgetOldest_38 rfl 0 rfl ?_
      refine z_getF (j := 3) S fo_RX9_43 2 rfl rfl ok_1 dX9_forgetOldest_39 ?_
      refine z_aload_n S dX9_forgetOldest_42 rfl 0 rfl ?_
      refine z_getF (j := 3) S fo_RX9_43 2 rfl rfl ok_1 dX9_forgetOldest_43 ?_
      refine z_alen (v := 12) S ok_3 (cel_m ok_3.2.2) rfl rfl rfl dX9_forgetOldest_46 ?_
      refine z_iconst (v := 1) S dX9_forgetOldest_47 (by decide) ?_
      refine z_isub S dX9_forgetOldest_48 ?_
      refine z_aload_n S dX9_forgetOldest_49 rfl 1 rfl ?_
      refine z_mast S ok_3 rfl (okk4 hq1) he dX9_forgetOldest_50 (fun M5 he => ?_)
      refine z_aload_n S dX9_forgetOldest_51 rfl 0 rfl ?_
      refine z_aload_n S dX9_forgetOldest_52 rfl 0 rfl ?_
      refine z_getF (j := 3) S fo_RX9_43 2 rfl rfl ok_1 dX9_forgetOldest_53 ?_
      refine z_alen (v := 12) S ok_3 (cel_m ok_3.2.2) rfl rfl rfl dX9_forgetOldest_56 ?_
      refine z_iconst (v := 1) S dX9_forgetOldest_57 (by decide) ?_
      refine z_isub S dX9_forgetOldest_58 ?_
      refine z_putIb S fo_RX9_129p rfl ok_1 rfl rfl he dX9_forgetOldest_59 (fun M6 he => ?_)
      exact z_vret S (Option.some.inj he) dX9_forgetOldest_62
    exact loopZ (Zh := (fun a_4 => Z X 0 p l e rm_X9_forgetOldest s m args below meth c 0 0 (MQ below (QV X 0 N s.heap.size) args s 0 0 (AA X 0 s.heap.size)) 3 a_4.1 9 [(0, .ref (X.2.2 1)), (1, .ref (X.2.2 q1)), (2, .int a_4.2)] [])) (fun a_4 x hb hc hr => p_X9_forgetOldest_L9 S (okk4 hq1) hb hc (fun b hxe => by rw [hr b hxe]; exact hX)) FU _ hl
set_option maxRecDepth 100000 in
set_option maxHeartbeats 4000000 in
theorem p_X9_remember_J16 {X : Cx} {p : Program} {l : Launch} {e : Env} {s : State} {m : MethodId} {args : Array Value} {below : List Frame} {meth : Method} {c : Code} (S : SB X 0 p s m args meth c cX9_remember 1 none RX9) {M : Mm} {N : Mm}  (he : f_X9_remember_J16 M  = some N) : Z X 0 p l e rm_X9_remember s m args below meth c 0 0 (MQ below (QV X 0 N s.heap.size) args s 0 0 (AA X 0 s.heap.size)) 1 M 16 [(0, .ref (X.2.2 1))] [] := by
  unfold f_X9_remember_J16 at he
  refine z_aload_n S dX9_remember_16 rfl 0 rfl ?_
  refine z_getI S fo_RX9_129 rfl ok_1 dX9_remember_17 ?_
  refine z_if_lt (tgt := 61) S he dX9_remember_20 (by decide) (fun he => ?_) (fun he => ?_)
  · exact z_vret S (Option.some.inj he) dX9_remember_61
  · refine z_aload_n S dX9_remember_23 rfl 0 rfl ?_
    refine z_getI S fo_RX9_129 rfl ok_1 dX9_remember_24 ?_
    refine z_aload_n S dX9_remember_27 rfl 0 rfl ?_
    refine z_getF (j := 3) S fo_RX9_43 2 rfl rfl ok_1 dX9_remember_28 ?_
    refine z_alen (v := 12) S ok_3 (cel_m ok_3.2.2) rfl rfl rfl dX9_remember_31 ?_
    refine z_icmp_ge (tgt := 61) S he dX9_remember_32 (by decide) (fun he => ?_) (fun he => ?_)
    · exact z_vret S (Option.some.inj he) dX9_remember_61
    · refine z_aload_n S dX9_remember_35 rfl 0 rfl ?_
      refine z_getF (j := 3) S fo_RX9_43 2 rfl rfl ok_1 dX9_remember_36 ?_
      refine z_aload_n S dX9_remember_39 rfl 0 rfl ?_
      refine z_getI S fo_RX9_129 rfl ok_1 dX9_remember_40 ?_
      refine z_mald S ok_3 rfl he dX9_remember_43 (fun q1 hq1 he => ?_)
      refine z_aload_n S dX9_remember_44 rfl 0 rfl ?_
      refine z_getGb (k2 := 4) S fo_RX9_20 rfl ok_1 (by decide) he dX9_remember_45 (fun q2 hq2 he => ?_)
      obtain ⟨M3, h9, he⟩ := bnd he
      refine z_cVV (As := [.ref (X.2.2 q2)]) S cv_RX9_93 (K_X4_copyFrom (okk4 hq1) (okk4 hq2) h9) (okk4 hq1) (by decide) (q := (RX4, TX4, 10)) rfl rfl ⟨rfl, rfl⟩ ⟨Nat.le_of_ble_eq_true rfl, Nat.le_of_ble_eq_true rfl⟩ ⟨Nat.le_refl _, Nat.le_refl _⟩ rfl rfl (Nat.le_of_ble_eq_true rfl) dX9_remember_48 ?_
      refine z_aload_n S dX9_remember_51 rfl 0 rfl ?_
      refine z_dup S rfl dX9_remember_52 ?_
      refine z_getI S fo_RX9_129 rfl ok_1 dX9_remember_53 ?_
      refine z_iconst (v := 1) S dX9_remember_56 (by decide) ?_
      refine z_iadd S dX9_remember_57 ?_
      refine z_putIb S fo_RX9_129p rfl ok_1 rfl rfl he dX9_remember_58 (fun M4 he => ?_)
      exact z_vret S (Option.some.inj he) dX9_remember_61
set_option maxRecDepth 100000 in
set_option maxHeartbeats 4000000 in
theorem K_X9_remember {X : Cx} {l : Launch} {M : Mm} {N : Mm}  (he : f_X9_remember M  = some N) : KV X 0 l yX9_remember (wz yX9_remember cX9_remember 1 none) rm_X9_remember [.ref (X.2.2 1)] M N := by
  intro sz
  refine K_of (Qc := (fun sz => QV X 0 N sz)) (own := RX9) (lv0 := [(0, .ref (X.2.2 1))]) (by decide +kernel) rfl (Nat.le_of_ble_eq_true rfl) rfl (fun p e s m args below meth c S => ?_) sz
  · unfold f_X9_remember at he
    refine z_aload_n S dX9_remember_0 rfl 0 rfl ?_
    refine z_getI S fo_RX9_129 rfl ok_1 dX9_remember_1 ?_
    refine z_aload_n S dX9_remember_4 rfl 0 rfl ?_
    refine z_getF (j := 3) S fo_RX9_43 2 rfl rfl ok_1 dX9_remember_5 ?_
    refine z_alen (v := 12) S ok_3 (cel_m ok_3.2.2) rfl rfl rfl dX9_remember_8 ?_
    refine z_icmp_lt (tgt := 16) S he dX9_remember_9 (by decide) (fun he => ?_) (fun he => ?_)
    · exact p_X9_remember_J16 S  he
    · refine z_aload_n S dX9_remember_12 rfl 0 rfl ?_
      obtain ⟨M5, h9, he⟩ := bnd he
      refine z_cVV (As := []) S cv_RX9_246 (K_X9_forgetOldest  h9) ok_1 (by decide) (q := (RX9, TX9, 17)) rfl rfl ⟨rfl, rfl⟩ ⟨Nat.le_of_ble_eq_true rfl, Nat.le_of_ble_eq_true rfl⟩ ⟨Nat.le_refl _, Nat.le_refl _⟩ rfl rfl (Nat.le_of_ble_eq_true rfl) dX9_remember_13 ?_
      exact p_X9_remember_J16 S  he
set_option maxRecDepth 100000 in
set_option maxHeartbeats 4000000 in
theorem p_X9_passDays_L5 {X : Cx} {p : Program} {l : Launch} {e : Env} {s : State} {m : MethodId} {args : Array Value} {below : List Frame} {meth : Method} {c : Code} (S : SB X 0 p s m args meth c cX9_passDays 5 (some .int) RX9) {M : Mm} {N : Mm} {r : Int32} {v1 : Nat} {v2 : Int32} {v3 : Int32} {v4 : Int32} {x : (Mm × Int32 × Int32) ⊕ (Mm × Int32)} (h_v1 : OK 0 v1 4) (he : f_X9_passDays_L5 M v1 v2 v3 v4 = some x) (hc : ∀ b, x = .inl b → Z X 0 p l e rm_X9_passDays s m args below meth c 0 0 (MQ below (QI X 0 r N s.heap.size) args s 0 0 (AA X 0 s.heap.size)) 5 b.1 5 [(0, .ref (X.2.2 1)), (1, .ref (X.2.2 v1)), (2, .int v2), (3, .int b.2.1), (4, .int b.2.2)] []) (hx : ∀ b, x = .inr b → Z X 0 p l e rm_X9_passDays s m args below meth c 0 0 (MQ below (QI X 0 r N s.heap.size) args s 0 0 (AA X 0 s.heap.size)) 5 b.1 33 [(3, .int b.2)] []) : Z X 0 p l e rm_X9_passDays s m args below meth c 0 0 (MQ below (QI X 0 r N s.heap.size) args s 0 0 (AA X 0 s.heap.size)) 5 M 5 [(0, .ref (X.2.2 1)), (1, .ref (X.2.2 v1)), (2, .int v2), (3, .int v3), (4, .int v4)] [] := by
  unfold f_X9_passDays_L5 at he
  refine z_iload S dX9_passDays_5 4 rfl ?_
  refine z_iload_n S dX9_passDays_7 rfl 2 rfl ?_
  refine z_icmp_ge (tgt := 33) S he dX9_passDays_8 (by decide) (fun he => ?_) (fun he => ?_)
  · refine z_lv (ks := [3]) rfl ?_
    exact hx _ (Option.some.inj he).symm
  · refine z_iload_n S dX9_passDays_11 rfl 3 rfl ?_
    refine z_aload_n S dX9_passDays_12 rfl 0 rfl ?_
    refine z_getF (j := 82) S fo_RX9_50 81 rfl rfl ok_1 dX9_passDays_13 ?_
    refine z_aload_n S dX9_passDays_16 rfl 1 rfl ?_
    refine z_aload_n S dX9_passDays_17 rfl 0 rfl ?_
    refine z_getGb (k2 := 2) S fo_RX9_30 rfl ok_1 (by decide) he dX9_passDays_18 (fun q1 hq1 he => ?_)
    refine z_iconst (v := 1) S dX9_passDays_21 (by decide) ?_
    obtain ⟨⟨r2, M3⟩, h9, he⟩ := bnd he
    dsimp only at he
    refine z_cVI (As := [.ref (X.2.2 v1), .ref (X.2.2 q1), .int 1]) S cv_RX9_242 (K_X6_passDay h_v1 (okk2 hq1) h9) ok_82 (by decide) (q := (RX6, TX6, 4)) rfl rfl ⟨rfl, rfl⟩ ⟨Nat.le_of_ble_eq_true rfl, Nat.le_of_ble_eq_true rfl⟩ ⟨Nat.le_refl _, Nat.le_refl _⟩ rfl rfl (Nat.le_of_ble_eq_true rfl) dX9_passDays_22 ?_
    refine z_iadd S dX9_passDays_25 ?_
    refine z_istore_n (lv' := [(0, .ref (X.2.2 1)), (1, .ref (X.2.2 v1)), (2, .int v2), (3, .int (v3 + r2)), (4, .int v4)]) S [1, 2, 3, 0, 4] dX9_passDays_26 rfl (by decide) rfl ?_
    refine z_iinc (v := (v4 + 1)) (lv' := [(0, .ref (X.2.2 1)), (1, .ref (X.2.2 v1)), (2, .int v2), (3, .int (v3 + r2)), (4, .int (v4 + 1))]) S [1, 2, 3, 4, 0] 4 dX9_passDays_27 rfl (by rfl) (by decide) rfl ?_
    refine z_goto (tgt := 5) S dX9_passDays_30 (by decide) ?_
    refine z_lv (ks := [0, 1, 2, 3, 4]) rfl ?_
    exact hc _ (Option.some.inj he).symm
set_option maxRecDepth 100000 in
set_option maxHeartbeats 4000000 in
theorem K_X9_passDays {X : Cx} {l : Launch} {M : Mm} {a1 : Nat} {a2 : Int32} {r : Int32} {N : Mm} (h_a1 : OK 0 a1 4) (he : f_X9_passDays M a1 a2 = some (r, N)) : KI X 0 l yX9_passDays (wz yX9_passDays cX9_passDays 5 (some .int)) rm_X9_passDays [.ref (X.2.2 1), .ref (X.2.2 a1), .int a2] M r N := by
  intro sz
  refine K_of (Qc := (fun sz => QI X 0 r N sz)) (own := RX9) (lv0 := [(0, .ref (X.2.2 1)), (1, .ref (X.2.2 a1)), (2, .int a2)]) (by decide +kernel) rfl (Nat.le_of_ble_eq_true rfl) rfl (fun p e s m args below meth c S => ?_) sz
  · unfold f_X9_passDays at he
    refine z_iconst (v := 0) S dX9_passDays_0 (by decide) ?_
    refine z_istore_n (lv' := [(0, .ref (X.2.2 1)), (1, .ref (X.2.2 a1)), (2, .int a2), (3, .int 0)]) S [1, 2, 3, 0] dX9_passDays_1 rfl (by decide) rfl ?_
    refine z_iconst (v := 0) S dX9_passDays_2 (by decide) ?_
    refine z_istore (lv' := [(0, .ref (X.2.2 1)), (1, .ref (X.2.2 a1)), (2, .int a2), (3, .int 0), (4, .int 0)]) S [1, 2, 3, 4, 0] dX9_passDays_3 (by decide) rfl ?_
    obtain ⟨e_4, hl, he⟩ := bnd he
    have hX : Z X 0 p l e rm_X9_passDays s m args below meth c 0 0 (MQ below (QI X 0 r N s.heap.size) args s 0 0 (AA X 0 s.heap.size)) 5 e_4.1 33 [(3, .int e_4.2)] [] := by
      refine z_iload_n S dX9_passDays_33 rfl 0 rfl ?_
      exact z_iret S (Prod.mk.inj (Option.some.inj he)) dX9_passDays_34
    exact loopZ (Zh := (fun a_4 => Z X 0 p l e rm_X9_passDays s m args below meth c 0 0 (MQ below (QI X 0 r N s.heap.size) args s 0 0 (AA X 0 s.heap.size)) 5 a_4.1 5 [(0, .ref (X.2.2 1)), (1, .ref (X.2.2 a1)), (2, .int a2), (3, .int a_4.2.1), (4, .int a_4.2.2)] [])) (fun a_4 x hb hc hr => p_X9_passDays_L5 S h_a1 hb hc (fun b hxe => by rw [hr b hxe]; exact hX)) FU _ hl
set_option maxRecDepth 100000 in
set_option maxHeartbeats 4000000 in
theorem K_X9_put_ {X : Cx} {l : Launch} {M : Mm} {a0 : Nat} {a1 : Int32} {a2 : Int64} {N : Mm} (h_a0 : OK 0 a0 31) (he : f_X9_put_ M a0 a1 a2 = some N) : KV X 0 l yX9_put_ (wz yX9_put_ cX9_put_ 4 none) rm_X9_put_ [.ref (X.2.2 a0), .int a1, .long a2] M N := by
  intro sz
  refine K_of (Qc := (fun sz => QV X 0 N sz)) (own := RX9) (lv0 := [(0, .ref (X.2.2 a0)), (1, .int a1), (2, .long a2)]) (by decide +kernel) rfl (Nat.le_of_ble_eq_true rfl) rfl (fun p e s m args below meth c S => ?_) sz
  · unfold f_X9_put_ at he
    refine z_iload_n S dX9_put__0 rfl 1 rfl ?_
    refine z_if_lt (tgt := 14) S he dX9_put__1 (by decide) (fun he => ?_) (fun he => ?_)
    · exact z_vret S (Option.some.inj he) dX9_put__14
    · refine z_iload_n S dX9_put__4 rfl 1 rfl ?_
      refine z_aload_n S dX9_put__5 rfl 0 rfl ?_
      refine z_alen (v := Int32.ofNat (ln a0)) S h_a0 (cel_j h_a0.2.2) rfl rfl rfl dX9_put__6 ?_
      refine z_icmp_ge (tgt := 14) S he dX9_put__7 (by decide) (fun he => ?_) (fun he => ?_)
      · exact z_vret S (Option.some.inj he) dX9_put__14
      · refine z_aload_n S dX9_put__10 rfl 0 rfl ?_
        refine z_iload_n S dX9_put__11 rfl 1 rfl ?_
        refine z_lload_n S dX9_put__12 rfl 2 rfl ?_
        refine z_lastb S h_a0 rfl he dX9_put__13 (fun M1 he => ?_)
        exact z_vret S (Option.some.inj he) dX9_put__14
set_option maxRecDepth 100000 in
set_option maxHeartbeats 4000000 in
theorem p_X0_setWorths_J19_84 {X : Cx} {p : Program} {l : Launch} {e : Env} {s : State} {m : MethodId} {args : Array Value} {below : List Frame} {meth : Method} {c : Code} (S : SB X 0 p s m args meth c cX0_setWorths 9 none RX0) {M : Mm} {N : Mm} {v2 : Int64} {v4 : Int32} {v5 : Int32} {t0 : Int64} {t1 : Int32} {x : (Mm × Int32) ⊕ Mm}  (he : f_X0_setWorths_J19_84 M v2 v4 v5 t0 t1 = some x) (hc : ∀ b, x = .inl b → Z X 0 p l e rm_X0_setWorths s m args below meth c 0 0 (MQ below (QV X 0 N s.heap.size) args s 0 0 (AA X 0 s.heap.size)) 9 b.1 19 [(0, .ref (X.2.2 90)), (1, .ref (X.2.2 82)), (2, .long v2), (4, .int v4), (5, .int b.2)] []) (hx : ∀ b, x = .inr b → Z X 0 p l e rm_X0_setWorths s m args below meth c 0 0 (MQ below (QV X 0 N s.heap.size) args s 0 0 (AA X 0 s.heap.size)) 9 b 93 [(0, .ref (X.2.2 90)), (1, .ref (X.2.2 82)), (2, .long v2), (4, .int v4)] []) : Z X 0 p l e rm_X0_setWorths s m args below meth c 0 0 (MQ below (QV X 0 N s.heap.size) args s 0 0 (AA X 0 s.heap.size)) 9 M 84 [(0, .ref (X.2.2 90)), (1, .ref (X.2.2 82)), (2, .long v2), (4, .int v4), (5, .int v5)] [.long t0, .int t1, .ref (X.2.2 91)] := by
  unfold f_X0_setWorths_J19_84 at he
  obtain ⟨M4, h9, he⟩ := bnd he
  refine z_cNV (As := [.ref (X.2.2 91), .int t1, .long t0]) S cn_RX0_83 (K_X9_put_ ok_91 h9) ⟨rfl, rfl⟩ ⟨Nat.le_of_ble_eq_true rfl, Nat.le_of_ble_eq_true rfl⟩ ⟨Nat.le_refl _, Nat.le_refl _⟩ rfl rfl (Nat.le_of_ble_eq_true rfl) dX0_setWorths_84 ?_
  refine z_iinc (v := (v5 + 1)) (lv' := [(0, .ref (X.2.2 90)), (1, .ref (X.2.2 82)), (2, .long v2), (4, .int v4), (5, .int (v5 + 1))]) S [1, 2, 3, 4, 0] 4 dX0_setWorths_87 rfl (by rfl) (by decide) rfl ?_
  refine z_goto (tgt := 19) S dX0_setWorths_90 (by decide) ?_
  refine z_lv (ks := [0, 1, 2, 3, 4]) rfl ?_
  exact hc _ (Option.some.inj he).symm
set_option maxRecDepth 100000 in
set_option maxHeartbeats 4000000 in
theorem p_X0_setWorths_L19 {X : Cx} {p : Program} {l : Launch} {e : Env} {s : State} {m : MethodId} {args : Array Value} {below : List Frame} {meth : Method} {c : Code} (S : SB X 0 p s m args meth c cX0_setWorths 9 none RX0) {M : Mm} {N : Mm} {v2 : Int64} {v4 : Int32} {v5 : Int32} {x : (Mm × Int32) ⊕ Mm}  (he : f_X0_setWorths_L19 M v2 v4 v5 = some x) (hc : ∀ b, x = .inl b → Z X 0 p l e rm_X0_setWorths s m args below meth c 0 0 (MQ below (QV X 0 N s.heap.size) args s 0 0 (AA X 0 s.heap.size)) 9 b.1 19 [(0, .ref (X.2.2 90)), (1, .ref (X.2.2 82)), (2, .long v2), (4, .int v4), (5, .int b.2)] []) (hx : ∀ b, x = .inr b → Z X 0 p l e rm_X0_setWorths s m args below meth c 0 0 (MQ below (QV X 0 N s.heap.size) args s 0 0 (AA X 0 s.heap.size)) 9 b 93 [(0, .ref (X.2.2 90)), (1, .ref (X.2.2 82)), (2, .long v2), (4, .int v4)] []) : Z X 0 p l e rm_X0_setWorths s m args below meth c 0 0 (MQ below (QV X 0 N s.heap.size) args s 0 0 (AA X 0 s.heap.size)) 9 M 19 [(0, .ref (X.2.2 90)), (1, .ref (X.2.2 82)), (2, .long v2), (4, .int v4), (5, .int v5)] [] := by
  unfold f_X0_setWorths_L19 at he
  refine z_iload S dX0_setWorths_19 4 rfl ?_
  refine z_aload_n S dX0_setWorths_21 rfl 0 rfl ?_
  refine z_getI S fo_RX0_39 rfl ok_90 dX0_setWorths_22 ?_
  refine z_icmp_ge (tgt := 93) S he dX0_setWorths_25 (by decide) (fun he => ?_) (fun he => ?_)
  · refine z_lv (ks := [0, 1, 2, 3]) rfl ?_
    exact hx _ (Option.some.inj he).symm
  · refine z_aload_n S dX0_setWorths_28 rfl 1 rfl ?_
    refine z_iload S dX0_setWorths_29 4 rfl ?_
    refine z_iload S dX0_setWorths_31 3 rfl ?_
    obtain ⟨r1, h9, he⟩ := bnd he
    refine z_cVI (As := [.int v5, .int v4]) S cv_RX0_72 (K_X6_likes  h9) ok_82 (by decide) (q := (RX6, TX6, 4)) rfl rfl ⟨rfl, rfl⟩ ⟨Nat.le_of_ble_eq_true rfl, Nat.le_of_ble_eq_true rfl⟩ ⟨Nat.le_refl _, Nat.le_refl _⟩ rfl rfl (Nat.le_of_ble_eq_true rfl) dX0_setWorths_33 ?_
    refine z_i2l S dX0_setWorths_36 ?_
    refine z_ldc2 (v := 10000000000) S kc_RX0_77 dX0_setWorths_37 ?_
    refine z_lmul S dX0_setWorths_40 ?_
    refine z_iload S dX0_setWorths_41 4 rfl ?_
    refine z_iconst (v := 1) S dX0_setWorths_43 (by decide) ?_
    refine z_iadd S dX0_setWorths_44 ?_
    refine z_i2l S dX0_setWorths_45 ?_
    refine z_lload_n S dX0_setWorths_46 rfl 2 rfl ?_
    refine z_lmul S dX0_setWorths_47 ?_
    refine z_lsub S dX0_setWorths_48 ?_
    obtain ⟨x2, ex2, he⟩ := bnd he
    rw [Option.some.inj ex2]
    refine z_lstore (lv' := [(0, .ref (X.2.2 90)), (1, .ref (X.2.2 82)), (2, .long v2), (4, .int v4), (5, .int v5), (6, .long x2)]) S [1, 2, 3, 4, 5, 0] dX0_setWorths_49 (by decide) rfl ?_
    refine z_aload_n S dX0_setWorths_51 rfl 1 rfl ?_
    refine z_iload S dX0_setWorths_52 4 rfl ?_
    refine z_iload S dX0_setWorths_54 3 rfl ?_
    obtain ⟨r3, h9, he⟩ := bnd he
    refine z_cVI (As := [.int v5, .int v4]) S cv_RX0_79 (K_X6_calls  h9) ok_82 (by decide) (q := (RX6, TX6, 4)) rfl rfl ⟨rfl, rfl⟩ ⟨Nat.le_of_ble_eq_true rfl, Nat.le_of_ble_eq_true rfl⟩ ⟨Nat.le_refl _, Nat.le_refl _⟩ rfl rfl (Nat.le_of_ble_eq_true rfl) dX0_setWorths_56 ?_
    refine z_istore (lv' := [(0, .ref (X.2.2 90)), (1, .ref (X.2.2 82)), (2, .long v2), (4, .int v4), (5, .int v5), (6, .long x2), (8, .int (bI r3))]) S [1, 2, 3, 4, 5, 6, 0] dX0_setWorths_59 (by decide) rfl ?_
    refine z_aload_n S dX0_setWorths_61 rfl 0 rfl ?_
    refine z_getF (j := 91) S fo_RX0_11 1 rfl rfl ok_90 dX0_setWorths_62 ?_
    refine z_iload S dX0_setWorths_65 4 rfl ?_
    refine z_bipush (v := 10) S dX0_setWorths_67 (by decide) ?_
    refine z_imul S dX0_setWorths_69 ?_
    refine z_iload S dX0_setWorths_70 3 rfl ?_
    refine z_iadd S dX0_setWorths_72 ?_
    refine z_iload S dX0_setWorths_73 6 rfl ?_
    refine z_ifb_eq (tgt := 83) S he dX0_setWorths_75 (by decide) (fun he => ?_) (fun he => ?_)
    · refine z_lconst (v := 0) S dX0_setWorths_83 (by decide) ?_
      refine z_lv (ks := [0, 1, 2, 3, 4]) rfl ?_
      exact p_X0_setWorths_J19_84 S  he hc hx
    · refine z_lload S dX0_setWorths_78 5 rfl ?_
      refine z_goto (tgt := 84) S dX0_setWorths_80 (by decide) ?_
      refine z_lv (ks := [0, 1, 2, 3, 4]) rfl ?_
      exact p_X0_setWorths_J19_84 S  he hc hx
set_option maxRecDepth 100000 in
set_option maxHeartbeats 4000000 in
theorem p_X0_setWorths_L7 {X : Cx} {p : Program} {l : Launch} {e : Env} {s : State} {m : MethodId} {args : Array Value} {below : List Frame} {meth : Method} {c : Code} (S : SB X 0 p s m args meth c cX0_setWorths 9 none RX0) {M : Mm} {N : Mm} {v2 : Int64} {v4 : Int32} {x : (Mm × Int64 × Int32) ⊕ Mm}  (he : f_X0_setWorths_L7 M v2 v4 = some x) (hc : ∀ b, x = .inl b → Z X 0 p l e rm_X0_setWorths s m args below meth c 0 0 (MQ below (QV X 0 N s.heap.size) args s 0 0 (AA X 0 s.heap.size)) 9 b.1 7 [(0, .ref (X.2.2 90)), (1, .ref (X.2.2 82)), (2, .long b.2.1), (4, .int b.2.2)] []) (hx : ∀ b, x = .inr b → Z X 0 p l e rm_X0_setWorths s m args below meth c 0 0 (MQ below (QV X 0 N s.heap.size) args s 0 0 (AA X 0 s.heap.size)) 9 b 105 [] []) : Z X 0 p l e rm_X0_setWorths s m args below meth c 0 0 (MQ below (QV X 0 N s.heap.size) args s 0 0 (AA X 0 s.heap.size)) 9 M 7 [(0, .ref (X.2.2 90)), (1, .ref (X.2.2 82)), (2, .long v2), (4, .int v4)] [] := by
  unfold f_X0_setWorths_L7 at he
  refine z_iload S dX0_setWorths_7 3 rfl ?_
  refine z_aload_n S dX0_setWorths_9 rfl 0 rfl ?_
  refine z_getI S fo_RX0_43 rfl ok_90 dX0_setWorths_10 ?_
  refine z_icmp_ge (tgt := 105) S he dX0_setWorths_13 (by decide) (fun he => ?_) (fun he => ?_)
  · refine z_lv (ks := []) rfl ?_
    exact hx _ (Option.some.inj he).symm
  · refine z_iconst (v := 0) S dX0_setWorths_16 (by decide) ?_
    refine z_istore (lv' := [(0, .ref (X.2.2 90)), (1, .ref (X.2.2 82)), (2, .long v2), (4, .int v4), (5, .int 0)]) S [1, 2, 3, 4, 0] dX0_setWorths_17 (by decide) rfl ?_
    obtain ⟨e_5, hl, he⟩ := bnd he
    have hX : Z X 0 p l e rm_X0_setWorths s m args below meth c 0 0 (MQ below (QV X 0 N s.heap.size) args s 0 0 (AA X 0 s.heap.size)) 9 e_5 93 [(0, .ref (X.2.2 90)), (1, .ref (X.2.2 82)), (2, .long v2), (4, .int v4)] [] := by
      refine z_lload_n S dX0_setWorths_93 rfl 2 rfl ?_
      refine z_ldc2 (v := 10) S kc_RX0_86 dX0_setWorths_94 ?_
      refine z_ldiv S (by decide) dX0_setWorths_97 ?_
      refine z_lstore_n (lv' := [(0, .ref (X.2.2 90)), (1, .ref (X.2.2 82)), (2, .long (v2 / 10)), (4, .int v4)]) S [1, 2, 0, 3] dX0_setWorths_98 rfl (by decide) rfl ?_
      refine z_iinc (v := (v4 + 1)) (lv' := [(0, .ref (X.2.2 90)), (1, .ref (X.2.2 82)), (2, .long (v2 / 10)), (4, .int (v4 + 1))]) S [1, 2, 3, 0] 3 dX0_setWorths_99 rfl (by rfl) (by decide) rfl ?_
      refine z_goto (tgt := 7) S dX0_setWorths_102 (by decide) ?_
      refine z_lv (ks := [0, 1, 2, 3]) rfl ?_
      exact hc _ (Option.some.inj he).symm
    exact loopZ (Zh := (fun a_5 => Z X 0 p l e rm_X0_setWorths s m args below meth c 0 0 (MQ below (QV X 0 N s.heap.size) args s 0 0 (AA X 0 s.heap.size)) 9 a_5.1 19 [(0, .ref (X.2.2 90)), (1, .ref (X.2.2 82)), (2, .long v2), (4, .int v4), (5, .int a_5.2)] [])) (fun a_5 x hb hc hr => p_X0_setWorths_L19 S  hb hc (fun b hxe => by rw [hr b hxe]; exact hX)) FU _ hl
set_option maxRecDepth 100000 in
set_option maxHeartbeats 4000000 in
theorem K_X0_setWorths {X : Cx} {l : Launch} {M : Mm} {N : Mm}  (he : f_X0_setWorths M  = some N) : KV X 0 l yX0_setWorths (wz yX0_setWorths cX0_setWorths 9 none) rm_X0_setWorths [.ref (X.2.2 90), .ref (X.2.2 82)] M N := by
  intro sz
  refine K_of (Qc := (fun sz => QV X 0 N sz)) (own := RX0) (lv0 := [(0, .ref (X.2.2 90)), (1, .ref (X.2.2 82))]) (by decide +kernel) rfl (Nat.le_of_ble_eq_true rfl) rfl (fun p e s m args below meth c S => ?_) sz
  · unfold f_X0_setWorths at he
    refine z_ldc2 (v := 1000000000) S kc_RX0_70 dX0_setWorths_0 ?_
    refine z_lstore_n (lv' := [(0, .ref (X.2.2 90)), (1, .ref (X.2.2 82)), (2, .long 1000000000)]) S [1, 2, 0] dX0_setWorths_3 rfl (by decide) rfl ?_
    refine z_iconst (v := 0) S dX0_setWorths_4 (by decide) ?_
    refine z_istore (lv' := [(0, .ref (X.2.2 90)), (1, .ref (X.2.2 82)), (2, .long 1000000000), (4, .int 0)]) S [1, 2, 3, 0] dX0_setWorths_5 (by decide) rfl ?_
    obtain ⟨e_6, hl, he⟩ := bnd he
    have hX : Z X 0 p l e rm_X0_setWorths s m args below meth c 0 0 (MQ below (QV X 0 N s.heap.size) args s 0 0 (AA X 0 s.heap.size)) 9 e_6 105 [] [] := by
      exact z_vret S (Option.some.inj he) dX0_setWorths_105
    exact loopZ (Zh := (fun a_6 => Z X 0 p l e rm_X0_setWorths s m args below meth c 0 0 (MQ below (QV X 0 N s.heap.size) args s 0 0 (AA X 0 s.heap.size)) 9 a_6.1 7 [(0, .ref (X.2.2 90)), (1, .ref (X.2.2 82)), (2, .long a_6.2.1), (4, .int a_6.2.2)] [])) (fun a_6 x hb hc hr => p_X0_setWorths_L7 S  hb hc (fun b hxe => by rw [hr b hxe]; exact hX)) FU _ hl
set_option maxRecDepth 100000 in
set_option maxHeartbeats 4000000 in
theorem K_X9_at_ {X : Cx} {l : Launch} {M : Mm} {a0 : Nat} {a1 : Int32} {r : Int64} (h_a0 : OK 0 a0 31) (he : f_X9_at_ M a0 a1 = some r) : KL X 0 l yX9_at_ (wz yX9_at_ cX9_at_ 2 (some .long)) rm_X9_at_ [.ref (X.2.2 a0), .int a1] M r M := by
  intro sz
  refine K_of (Qc := (fun sz => QL X 0 r M sz)) (own := RX9) (lv0 := [(0, .ref (X.2.2 a0)), (1, .int a1)]) (by decide +kernel) rfl (Nat.le_of_ble_eq_true rfl) rfl (fun p e s m args below meth c S => ?_) sz
  · unfold f_X9_at_ at he
    refine z_iload_n S dX9_at__0 rfl 1 rfl ?_
    refine z_if_lt (tgt := 16) S he dX9_at__1 (by decide) (fun he => ?_) (fun he => ?_)
    · refine z_lconst (v := 0) S dX9_at__16 (by decide) ?_
      exact z_lret S (⟨Option.some.inj he, rfl⟩) dX9_at__17
    · refine z_iload_n S dX9_at__4 rfl 1 rfl ?_
      refine z_aload_n S dX9_at__5 rfl 0 rfl ?_
      refine z_alen (v := Int32.ofNat (ln a0)) S h_a0 (cel_j h_a0.2.2) rfl rfl rfl dX9_at__6 ?_
      refine z_icmp_ge (tgt := 16) S he dX9_at__7 (by decide) (fun he => ?_) (fun he => ?_)
      · refine z_lconst (v := 0) S dX9_at__16 (by decide) ?_
        exact z_lret S (⟨Option.some.inj he, rfl⟩) dX9_at__17
      · refine z_aload_n S dX9_at__10 rfl 0 rfl ?_
        refine z_iload_n S dX9_at__11 rfl 1 rfl ?_
        refine z_lald S h_a0 rfl he dX9_at__12 (fun he => ?_)
        refine z_goto (tgt := 17) S dX9_at__13 (by decide) ?_
        exact z_lret S (⟨Option.some.inj he, rfl⟩) dX9_at__17
set_option maxRecDepth 100000 in
set_option maxHeartbeats 4000000 in
theorem K_X0_worth {X : Cx} {l : Launch} {M : Mm} {a1 : Int32} {a2 : Int32} {r : Int64}  (he : f_X0_worth M a1 a2 = some r) : KL X 0 l yX0_worth (wz yX0_worth cX0_worth 3 (some .long)) rm_X0_worth [.ref (X.2.2 90), .int a1, .int a2] M r M := by
  intro sz
  refine K_of (Qc := (fun sz => QL X 0 r M sz)) (own := RX0) (lv0 := [(0, .ref (X.2.2 90)), (1, .int a1), (2, .int a2)]) (by decide +kernel) rfl (Nat.le_of_ble_eq_true rfl) rfl (fun p e s m args below meth c S => ?_) sz
  · unfold f_X0_worth at he
    refine z_aload_n S dX0_worth_0 rfl 0 rfl ?_
    refine z_getF (j := 91) S fo_RX0_11 1 rfl rfl ok_90 dX0_worth_1 ?_
    refine z_iload_n S dX0_worth_4 rfl 1 rfl ?_
    refine z_bipush (v := 10) S dX0_worth_5 (by decide) ?_
    refine z_imul S dX0_worth_7 ?_
    refine z_iload_n S dX0_worth_8 rfl 2 rfl ?_
    refine z_iadd S dX0_worth_9 ?_
    obtain ⟨r1, h9, he⟩ := bnd he
    refine z_cNL (As := [.ref (X.2.2 91), .int ((a1 * 10) + a2)]) S cn_RX0_88 (K_X9_at_ ok_91 h9) ⟨rfl, rfl⟩ ⟨Nat.le_of_ble_eq_true rfl, Nat.le_of_ble_eq_true rfl⟩ ⟨Nat.le_refl _, Nat.le_refl _⟩ rfl rfl (Nat.le_of_ble_eq_true rfl) dX0_worth_10 ?_
    exact z_lret S (⟨Option.some.inj he, rfl⟩) dX0_worth_13
set_option maxRecDepth 100000 in
set_option maxHeartbeats 4000000 in
theorem p_X0_reachThings_J24_75 {X : Cx} {p : Program} {l : Launch} {e : Env} {s : State} {m : MethodId} {args : Array Value} {below : List Frame} {meth : Method} {c : Code} (S : SB X 0 p s m args meth c cX0_reachThings 9 (some .boolean) RX0) {M : Mm} {N : Mm} {r : Bool} {v1 : Int32} {v2 : Int32} {v3 : Int64} {v5 : Int32} {v6 : Int64} {t0 : Int32} {x : (Mm × Int32 × Int32) ⊕ (Mm × Int32)}  (he : f_X0_reachThings_J24_75 M v1 v2 v3 v5 v6 t0 = some x) (hc : ∀ b, x = .inl b → Z X 0 p l e rm_X0_reachThings s m args below meth c 0 0 (MQ below (QI X 0 (bI r) N s.heap.size) args s 0 0 (AA X 0 s.heap.size)) 9 b.1 24 [(0, .ref (X.2.2 90)), (1, .int b.2.1), (2, .int v2), (3, .long v3), (5, .int b.2.2)] []) (hx : ∀ b, x = .inr b → Z X 0 p l e rm_X0_reachThings s m args below meth c 0 0 (MQ below (QI X 0 (bI r) N s.heap.size) args s 0 0 (AA X 0 s.heap.size)) 9 b.1 130 [(0, .ref (X.2.2 90)), (1, .int b.2), (2, .int v2)] []) : Z X 0 p l e rm_X0_reachThings s m args below meth c 0 0 (MQ below (QI X 0 (bI r) N s.heap.size) args s 0 0 (AA X 0 s.heap.size)) 9 M 75 [(0, .ref (X.2.2 90)), (1, .int v1), (2, .int v2), (3, .long v3), (5, .int v5), (6, .long v6)] [.int t0] := by
  unfold f_X0_reachThings_J24_75 at he
  refine z_istore (lv' := [(0, .ref (X.2.2 90)), (1, .int v1), (2, .int v2), (3, .long v3), (5, .int v5), (6, .long v6), (8, .int t0)]) S [1, 2, 3, 4, 5, 6, 0] dX0_reachThings_75 (by decide) rfl ?_
  refine z_iload S dX0_reachThings_77 6 rfl ?_
  refine z_if_eq (tgt := 124) S he dX0_reachThings_79 (by decide) (fun he => ?_) (fun he => ?_)
  · refine z_iinc (v := (v5 + 1)) (lv' := [(0, .ref (X.2.2 90)), (1, .int v1), (2, .int v2), (3, .long v3), (5, .int (v5 + 1)), (6, .long v6), (8, .int t0)]) S [1, 2, 3, 4, 0, 5, 6] 4 dX0_reachThings_124 rfl (by rfl) (by decide) rfl ?_
    refine z_goto (tgt := 24) S dX0_reachThings_127 (by decide) ?_
    refine z_lv (ks := [0, 1, 2, 3, 4]) rfl ?_
    exact hc _ (Option.some.inj he).symm
  · refine z_lload_n S dX0_reachThings_82 rfl 3 rfl ?_
    refine z_lload S dX0_reachThings_83 5 rfl ?_
    refine z_ladd S dX0_reachThings_85 ?_
    refine z_aload_n S dX0_reachThings_86 rfl 0 rfl ?_
    refine z_getF (j := 95) S fo_RX0_27 5 rfl rfl ok_90 dX0_reachThings_87 ?_
    refine z_iload S dX0_reachThings_90 4 rfl ?_
    obtain ⟨r3, h9, he⟩ := bnd he
    refine z_cNL (As := [.ref (X.2.2 95), .int v5]) S cn_RX0_88 (K_X9_at_ ok_95 h9) ⟨rfl, rfl⟩ ⟨Nat.le_of_ble_eq_true rfl, Nat.le_of_ble_eq_true rfl⟩ ⟨Nat.le_refl _, Nat.le_refl _⟩ rfl rfl (Nat.le_of_ble_eq_true rfl) dX0_reachThings_92 ?_
    refine z_lcmp S dX0_reachThings_95 ?_
    refine z_if_le (tgt := 124) S he dX0_reachThings_96 (by decide) (fun he => ?_) (fun he => ?_)
    · refine z_iinc (v := (v5 + 1)) (lv' := [(0, .ref (X.2.2 90)), (1, .int v1), (2, .int v2), (3, .long v3), (5, .int (v5 + 1)), (6, .long v6), (8, .int t0)]) S [1, 2, 3, 4, 0, 5, 6] 4 dX0_reachThings_124 rfl (by rfl) (by decide) rfl ?_
      refine z_goto (tgt := 24) S dX0_reachThings_127 (by decide) ?_
      refine z_lv (ks := [0, 1, 2, 3, 4]) rfl ?_
      exact hc _ (Option.some.inj he).symm
    · refine z_aload_n S dX0_reachThings_99 rfl 0 rfl ?_
      refine z_getF (j := 95) S fo_RX0_27 5 rfl rfl ok_90 dX0_reachThings_100 ?_
      refine z_iload S dX0_reachThings_103 4 rfl ?_
      refine z_lload_n S dX0_reachThings_105 rfl 3 rfl ?_
      refine z_lload S dX0_reachThings_106 5 rfl ?_
      refine z_ladd S dX0_reachThings_108 ?_
      obtain ⟨M4, h9, he⟩ := bnd he
      refine z_cNV (As := [.ref (X.2.2 95), .int v5, .long (v3 + v6)]) S cn_RX0_83 (K_X9_put_ ok_95 h9) ⟨rfl, rfl⟩ ⟨Nat.le_of_ble_eq_true rfl, Nat.le_of_ble_eq_true rfl⟩ ⟨Nat.le_refl _, Nat.le_refl _⟩ rfl rfl (Nat.le_of_ble_eq_true rfl) dX0_reachThings_109 ?_
      refine z_aload_n S dX0_reachThings_112 rfl 0 rfl ?_
      refine z_getF (j := 96) S fo_RX0_30 6 rfl rfl ok_90 dX0_reachThings_113 ?_
      refine z_iload S dX0_reachThings_116 4 rfl ?_
      refine z_iload_n S dX0_reachThings_118 rfl 2 rfl ?_
      obtain ⟨M5, h9, he⟩ := bnd he
      refine z_cNV (As := [.ref (X.2.2 96), .int v5, .int v2]) S cn_RX0_54 (K_X9_put ok_96 h9) ⟨rfl, rfl⟩ ⟨Nat.le_of_ble_eq_true rfl, Nat.le_of_ble_eq_true rfl⟩ ⟨Nat.le_refl _, Nat.le_refl _⟩ rfl rfl (Nat.le_of_ble_eq_true rfl) dX0_reachThings_119 ?_
      refine z_iconst (v := 1) S dX0_reachThings_122 (by decide) ?_
      refine z_istore_n (lv' := [(0, .ref (X.2.2 90)), (1, .int 1), (2, .int v2), (3, .long v3), (5, .int v5)]) S [1, 0, 2, 3, 4] dX0_reachThings_123 rfl (by decide) rfl ?_
      refine z_iinc (v := (v5 + 1)) (lv' := [(0, .ref (X.2.2 90)), (1, .int 1), (2, .int v2), (3, .long v3), (5, .int (v5 + 1))]) S [1, 2, 3, 4, 0] 4 dX0_reachThings_124 rfl (by rfl) (by decide) rfl ?_
      refine z_goto (tgt := 24) S dX0_reachThings_127 (by decide) ?_
      refine z_lv (ks := [0, 1, 2, 3, 4]) rfl ?_
      exact hc _ (Option.some.inj he).symm
set_option maxRecDepth 100000 in
set_option maxHeartbeats 4000000 in
theorem p_X0_reachThings_J24_74 {X : Cx} {p : Program} {l : Launch} {e : Env} {s : State} {m : MethodId} {args : Array Value} {below : List Frame} {meth : Method} {c : Code} (S : SB X 0 p s m args meth c cX0_reachThings 9 (some .boolean) RX0) {M : Mm} {N : Mm} {r : Bool} {v1 : Int32} {v2 : Int32} {v3 : Int64} {v5 : Int32} {v6 : Int64} {x : (Mm × Int32 × Int32) ⊕ (Mm × Int32)}  (he : f_X0_reachThings_J24_74 M v1 v2 v3 v5 v6 = some x) (hc : ∀ b, x = .inl b → Z X 0 p l e rm_X0_reachThings s m args below meth c 0 0 (MQ below (QI X 0 (bI r) N s.heap.size) args s 0 0 (AA X 0 s.heap.size)) 9 b.1 24 [(0, .ref (X.2.2 90)), (1, .int b.2.1), (2, .int v2), (3, .long v3), (5, .int b.2.2)] []) (hx : ∀ b, x = .inr b → Z X 0 p l e rm_X0_reachThings s m args below meth c 0 0 (MQ below (QI X 0 (bI r) N s.heap.size) args s 0 0 (AA X 0 s.heap.size)) 9 b.1 130 [(0, .ref (X.2.2 90)), (1, .int b.2), (2, .int v2)] []) : Z X 0 p l e rm_X0_reachThings s m args below meth c 0 0 (MQ below (QI X 0 (bI r) N s.heap.size) args s 0 0 (AA X 0 s.heap.size)) 9 M 74 [(0, .ref (X.2.2 90)), (1, .int v1), (2, .int v2), (3, .long v3), (5, .int v5), (6, .long v6)] [] := by
  unfold f_X0_reachThings_J24_74 at he
  refine z_iconst (v := 0) S dX0_reachThings_74 (by decide) ?_
  exact p_X0_reachThings_J24_75 S  he hc hx
set_option maxRecDepth 100000 in
set_option maxHeartbeats 4000000 in
theorem p_X0_reachThings_L24 {X : Cx} {p : Program} {l : Launch} {e : Env} {s : State} {m : MethodId} {args : Array Value} {below : List Frame} {meth : Method} {c : Code} (S : SB X 0 p s m args meth c cX0_reachThings 9 (some .boolean) RX0) {M : Mm} {N : Mm} {r : Bool} {v1 : Int32} {v2 : Int32} {v3 : Int64} {v5 : Int32} {x : (Mm × Int32 × Int32) ⊕ (Mm × Int32)}  (he : f_X0_reachThings_L24 M v1 v2 v3 v5 = some x) (hc : ∀ b, x = .inl b → Z X 0 p l e rm_X0_reachThings s m args below meth c 0 0 (MQ below (QI X 0 (bI r) N s.heap.size) args s 0 0 (AA X 0 s.heap.size)) 9 b.1 24 [(0, .ref (X.2.2 90)), (1, .int b.2.1), (2, .int v2), (3, .long v3), (5, .int b.2.2)] []) (hx : ∀ b, x = .inr b → Z X 0 p l e rm_X0_reachThings s m args below meth c 0 0 (MQ below (QI X 0 (bI r) N s.heap.size) args s 0 0 (AA X 0 s.heap.size)) 9 b.1 130 [(0, .ref (X.2.2 90)), (1, .int b.2), (2, .int v2)] []) : Z X 0 p l e rm_X0_reachThings s m args below meth c 0 0 (MQ below (QI X 0 (bI r) N s.heap.size) args s 0 0 (AA X 0 s.heap.size)) 9 M 24 [(0, .ref (X.2.2 90)), (1, .int v1), (2, .int v2), (3, .long v3), (5, .int v5)] [] := by
  unfold f_X0_reachThings_L24 at he
  refine z_iload S dX0_reachThings_24 4 rfl ?_
  refine z_aload_n S dX0_reachThings_26 rfl 0 rfl ?_
  refine z_getI S fo_RX0_39 rfl ok_90 dX0_reachThings_27 ?_
  refine z_icmp_ge (tgt := 130) S he dX0_reachThings_30 (by decide) (fun he => ?_) (fun he => ?_)
  · refine z_lv (ks := [0, 1, 2]) rfl ?_
    exact hx _ (Option.some.inj he).symm
  · refine z_lload_n S dX0_reachThings_33 rfl 3 rfl ?_
    refine z_ldc2 (v := (-2305843009213693952)) S kc_RX0_92 dX0_reachThings_34 ?_
    refine z_lcmp S dX0_reachThings_37 ?_
    refine z_if_eq (tgt := 130) S he dX0_reachThings_38 (by decide) (fun he => ?_) (fun he => ?_)
    · refine z_lv (ks := [0, 1, 2]) rfl ?_
      exact hx _ (Option.some.inj he).symm
    · refine z_aload_n S dX0_reachThings_41 rfl 0 rfl ?_
      refine z_iload S dX0_reachThings_42 4 rfl ?_
      refine z_iload_n S dX0_reachThings_44 rfl 2 rfl ?_
      obtain ⟨r2, h9, he⟩ := bnd he
      refine z_cVL (As := [.int v5, .int v2]) S cv_RX0_107 (K_X0_worth  h9) ok_90 (by decide) (q := (RX0, TX0, 8)) rfl rfl ⟨rfl, rfl⟩ ⟨Nat.le_of_ble_eq_true rfl, Nat.le_of_ble_eq_true rfl⟩ ⟨Nat.le_refl _, Nat.le_refl _⟩ rfl rfl (Nat.le_of_ble_eq_true rfl) dX0_reachThings_45 ?_
      refine z_lstore (lv' := [(0, .ref (X.2.2 90)), (1, .int v1), (2, .int v2), (3, .long v3), (5, .int v5), (6, .long r2)]) S [1, 2, 3, 4, 5, 0] dX0_reachThings_48 (by decide) rfl ?_
      refine z_lload S dX0_reachThings_50 5 rfl ?_
      refine z_lconst (v := 0) S dX0_reachThings_52 (by decide) ?_
      refine z_lcmp S dX0_reachThings_53 ?_
      refine z_if_le (tgt := 74) S he dX0_reachThings_54 (by decide) (fun he => ?_) (fun he => ?_)
      · exact p_X0_reachThings_J24_74 S  he hc hx
      · refine z_aload_n S dX0_reachThings_57 rfl 0 rfl ?_
        refine z_getF (j := 92) S fo_RX0_17 2 rfl rfl ok_90 dX0_reachThings_58 ?_
        refine z_iload_n S dX0_reachThings_61 rfl 2 rfl ?_
        obtain ⟨r6, h9, he⟩ := bnd he
        refine z_cNI (As := [.ref (X.2.2 92), .int v2]) S cn_RX0_97 (K_X9_at ok_92 h9) ⟨rfl, rfl⟩ ⟨Nat.le_of_ble_eq_true rfl, Nat.le_of_ble_eq_true rfl⟩ ⟨Nat.le_refl _, Nat.le_refl _⟩ rfl rfl (Nat.le_of_ble_eq_true rfl) dX0_reachThings_62 ?_
        refine z_iload S dX0_reachThings_65 4 rfl ?_
        refine z_icmp_eq (tgt := 74) S he dX0_reachThings_67 (by decide) (fun he => ?_) (fun he => ?_)
        · exact p_X0_reachThings_J24_74 S  he hc hx
        · refine z_iconst (v := 1) S dX0_reachThings_70 (by decide) ?_
          refine z_goto (tgt := 75) S dX0_reachThings_71 (by decide) ?_
          exact p_X0_reachThings_J24_75 S  he hc hx
set_option maxRecDepth 100000 in
set_option maxHeartbeats 4000000 in
theorem p_X0_reachThings_L4 {X : Cx} {p : Program} {l : Launch} {e : Env} {s : State} {m : MethodId} {args : Array Value} {below : List Frame} {meth : Method} {c : Code} (S : SB X 0 p s m args meth c cX0_reachThings 9 (some .boolean) RX0) {M : Mm} {N : Mm} {r : Bool} {v1 : Int32} {v2 : Int32} {x : (Mm × Int32 × Int32) ⊕ (Mm × Int32)}  (he : f_X0_reachThings_L4 M v1 v2 = some x) (hc : ∀ b, x = .inl b → Z X 0 p l e rm_X0_reachThings s m args below meth c 0 0 (MQ below (QI X 0 (bI r) N s.heap.size) args s 0 0 (AA X 0 s.heap.size)) 9 b.1 4 [(0, .ref (X.2.2 90)), (1, .int b.2.1), (2, .int b.2.2)] []) (hx : ∀ b, x = .inr b → Z X 0 p l e rm_X0_reachThings s m args below meth c 0 0 (MQ below (QI X 0 (bI r) N s.heap.size) args s 0 0 (AA X 0 s.heap.size)) 9 b.1 136 [(1, .int b.2)] []) : Z X 0 p l e rm_X0_reachThings s m args below meth c 0 0 (MQ below (QI X 0 (bI r) N s.heap.size) args s 0 0 (AA X 0 s.heap.size)) 9 M 4 [(0, .ref (X.2.2 90)), (1, .int v1), (2, .int v2)] [] := by
  unfold f_X0_reachThings_L4 at he
  refine z_iload_n S dX0_reachThings_4 rfl 2 rfl ?_
  refine z_aload_n S dX0_reachThings_5 rfl 0 rfl ?_
  refine z_getI S fo_RX0_43 rfl ok_90 dX0_reachThings_6 ?_
  refine z_icmp_ge (tgt := 136) S he dX0_reachThings_9 (by decide) (fun he => ?_) (fun he => ?_)
  · refine z_lv (ks := [1]) rfl ?_
    exact hx _ (Option.some.inj he).symm
  · refine z_aload_n S dX0_reachThings_12 rfl 0 rfl ?_
    refine z_getF (j := 94) S fo_RX0_24 4 rfl rfl ok_90 dX0_reachThings_13 ?_
    refine z_iload_n S dX0_reachThings_16 rfl 2 rfl ?_
    obtain ⟨r1, h9, he⟩ := bnd he
    refine z_cNL (As := [.ref (X.2.2 94), .int v2]) S cn_RX0_88 (K_X9_at_ ok_94 h9) ⟨rfl, rfl⟩ ⟨Nat.le_of_ble_eq_true rfl, Nat.le_of_ble_eq_true rfl⟩ ⟨Nat.le_refl _, Nat.le_refl _⟩ rfl rfl (Nat.le_of_ble_eq_true rfl) dX0_reachThings_17 ?_
    refine z_lstore_n (lv' := [(0, .ref (X.2.2 90)), (1, .int v1), (2, .int v2), (3, .long r1)]) S [1, 2, 3, 0] dX0_reachThings_20 rfl (by decide) rfl ?_
    refine z_iconst (v := 0) S dX0_reachThings_21 (by decide) ?_
    refine z_istore (lv' := [(0, .ref (X.2.2 90)), (1, .int v1), (2, .int v2), (3, .long r1), (5, .int 0)]) S [1, 2, 3, 4, 0] dX0_reachThings_22 (by decide) rfl ?_
    obtain ⟨e_7, hl, he⟩ := bnd he
    have hX : Z X 0 p l e rm_X0_reachThings s m args below meth c 0 0 (MQ below (QI X 0 (bI r) N s.heap.size) args s 0 0 (AA X 0 s.heap.size)) 9 e_7.1 130 [(0, .ref (X.2.2 90)), (1, .int e_7.2), (2, .int v2)] [] := by
      refine z_iinc (v := (v2 + 1)) (lv' := [(0, .ref (X.2.2 90)), (1, .int e_7.2), (2, .int (v2 + 1))]) S [1, 2, 0] 2 dX0_reachThings_130 rfl (by rfl) (by decide) rfl ?_
      refine z_goto (tgt := 4) S dX0_reachThings_133 (by decide) ?_
      refine z_lv (ks := [0, 1, 2]) rfl ?_
      exact hc _ (Option.some.inj he).symm
    exact loopZ (Zh := (fun a_7 => Z X 0 p l e rm_X0_reachThings s m args below meth c 0 0 (MQ below (QI X 0 (bI r) N s.heap.size) args s 0 0 (AA X 0 s.heap.size)) 9 a_7.1 24 [(0, .ref (X.2.2 90)), (1, .int a_7.2.1), (2, .int v2), (3, .long r1), (5, .int a_7.2.2)] [])) (fun a_7 x hb hc hr => p_X0_reachThings_L24 S  hb hc (fun b hxe => by rw [hr b hxe]; exact hX)) FU _ hl
set_option maxRecDepth 100000 in
set_option maxHeartbeats 4000000 in
theorem K_X0_reachThings {X : Cx} {l : Launch} {M : Mm} {r : Bool} {N : Mm}  (he : f_X0_reachThings M  = some (r, N)) : KI X 0 l yX0_reachThings (wz yX0_reachThings cX0_reachThings 9 (some .boolean)) rm_X0_reachThings [.ref (X.2.2 90)] M (bI r) N := by
  intro sz
  refine K_of (Qc := (fun sz => QI X 0 (bI r) N sz)) (own := RX0) (lv0 := [(0, .ref (X.2.2 90))]) (by decide +kernel) rfl (Nat.le_of_ble_eq_true rfl) rfl (fun p e s m args below meth c S => ?_) sz
  · unfold f_X0_reachThings at he
    refine z_iconst (v := 0) S dX0_reachThings_0 (by decide) ?_
    refine z_istore_n (lv' := [(0, .ref (X.2.2 90)), (1, .int 0)]) S [1, 0] dX0_reachThings_1 rfl (by decide) rfl ?_
    refine z_iconst (v := 0) S dX0_reachThings_2 (by decide) ?_
    refine z_istore_n (lv' := [(0, .ref (X.2.2 90)), (1, .int 0), (2, .int 0)]) S [1, 2, 0] dX0_reachThings_3 rfl (by decide) rfl ?_
    obtain ⟨e_8, hl, he⟩ := bnd he
    have hX : Z X 0 p l e rm_X0_reachThings s m args below meth c 0 0 (MQ below (QI X 0 (bI r) N s.heap.size) args s 0 0 (AA X 0 s.heap.size)) 9 e_8.1 136 [(1, .int e_8.2)] [] := by
      refine z_iload_n S dX0_reachThings_136 rfl 0 rfl ?_
      rcases z_sw he with ⟨hk9, he⟩ | ⟨hk9, he⟩
      · exact z_zretv (b := false) S hk9 (Prod.mk.inj (Option.some.inj he)) dX0_reachThings_137
      · obtain ⟨hk8, he⟩ := grd he
        exact z_zretv (b := true) S hk8 (Prod.mk.inj (Option.some.inj he)) dX0_reachThings_137
    exact loopZ (Zh := (fun a_8 => Z X 0 p l e rm_X0_reachThings s m args below meth c 0 0 (MQ below (QI X 0 (bI r) N s.heap.size) args s 0 0 (AA X 0 s.heap.size)) 9 a_8.1 4 [(0, .ref (X.2.2 90)), (1, .int a_8.2.1), (2, .int a_8.2.2)] [])) (fun a_8 x hb hc hr => p_X0_reachThings_L4 S  hb hc (fun b hxe => by rw [hr b hxe]; exact hX)) FU _ hl
set_option maxRecDepth 100000 in
set_option maxHeartbeats 4000000 in
theorem p_X0_reachVisitors_J4_40 {X : Cx} {p : Program} {l : Launch} {e : Env} {s : State} {m : MethodId} {args : Array Value} {below : List Frame} {meth : Method} {c : Code} (S : SB X 0 p s m args meth c cX0_reachVisitors 6 (some .boolean) RX0) {M : Mm} {N : Mm} {r : Bool} {v1 : Int32} {v2 : Int32} {v3 : Int32} {t0 : Int64} {x : (Mm × Int32 × Int32) ⊕ (Mm × Int32)}  (he : f_X0_reachVisitors_J4_40 M v1 v2 v3 t0 = some x) (hc : ∀ b, x = .inl b → Z X 0 p l e rm_X0_reachVisitors s m args below meth c 0 0 (MQ below (QI X 0 (bI r) N s.heap.size) args s 0 0 (AA X 0 s.heap.size)) 6 b.1 4 [(0, .ref (X.2.2 90)), (1, .int b.2.1), (2, .int b.2.2)] []) (hx : ∀ b, x = .inr b → Z X 0 p l e rm_X0_reachVisitors s m args below meth c 0 0 (MQ below (QI X 0 (bI r) N s.heap.size) args s 0 0 (AA X 0 s.heap.size)) 6 b.1 97 [(1, .int b.2)] []) : Z X 0 p l e rm_X0_reachVisitors s m args below meth c 0 0 (MQ below (QI X 0 (bI r) N s.heap.size) args s 0 0 (AA X 0 s.heap.size)) 6 M 40 [(0, .ref (X.2.2 90)), (1, .int v1), (2, .int v2), (3, .int v3)] [.long t0] := by
  unfold f_X0_reachVisitors_J4_40 at he
  refine z_lstore (lv' := [(0, .ref (X.2.2 90)), (1, .int v1), (2, .int v2), (3, .int v3), (4, .long t0)]) S [1, 2, 3, 4, 0] dX0_reachVisitors_40 (by decide) rfl ?_
  refine z_lload S dX0_reachVisitors_42 4 rfl ?_
  refine z_ldc2 (v := (-2305843009213693952)) S kc_RX0_92 dX0_reachVisitors_44 ?_
  refine z_lcmp S dX0_reachVisitors_47 ?_
  refine z_if_eq (tgt := 91) S he dX0_reachVisitors_48 (by decide) (fun he => ?_) (fun he => ?_)
  · refine z_iinc (v := (v2 + 1)) (lv' := [(0, .ref (X.2.2 90)), (1, .int v1), (2, .int (v2 + 1)), (3, .int v3), (4, .long t0)]) S [1, 2, 0, 3, 4] 2 dX0_reachVisitors_91 rfl (by rfl) (by decide) rfl ?_
    refine z_goto (tgt := 4) S dX0_reachVisitors_94 (by decide) ?_
    refine z_lv (ks := [0, 1, 2]) rfl ?_
    exact hc _ (Option.some.inj he).symm
  · refine z_lload S dX0_reachVisitors_51 4 rfl ?_
    refine z_aload_n S dX0_reachVisitors_53 rfl 0 rfl ?_
    refine z_iload_n S dX0_reachVisitors_54 rfl 3 rfl ?_
    refine z_iload_n S dX0_reachVisitors_55 rfl 2 rfl ?_
    obtain ⟨r3, h9, he⟩ := bnd he
    refine z_cVL (As := [.int v3, .int v2]) S cv_RX0_107 (K_X0_worth  h9) ok_90 (by decide) (q := (RX0, TX0, 8)) rfl rfl ⟨rfl, rfl⟩ ⟨Nat.le_of_ble_eq_true rfl, Nat.le_of_ble_eq_true rfl⟩ ⟨Nat.le_refl _, Nat.le_refl _⟩ rfl rfl (Nat.le_of_ble_eq_true rfl) dX0_reachVisitors_56 ?_
    refine z_lsub S dX0_reachVisitors_59 ?_
    refine z_aload_n S dX0_reachVisitors_60 rfl 0 rfl ?_
    refine z_getF (j := 94) S fo_RX0_24 4 rfl rfl ok_90 dX0_reachVisitors_61 ?_
    refine z_iload_n S dX0_reachVisitors_64 rfl 2 rfl ?_
    obtain ⟨r4, h9, he⟩ := bnd he
    refine z_cNL (As := [.ref (X.2.2 94), .int v2]) S cn_RX0_88 (K_X9_at_ ok_94 h9) ⟨rfl, rfl⟩ ⟨Nat.le_of_ble_eq_true rfl, Nat.le_of_ble_eq_true rfl⟩ ⟨Nat.le_refl _, Nat.le_refl _⟩ rfl rfl (Nat.le_of_ble_eq_true rfl) dX0_reachVisitors_65 ?_
    refine z_lcmp S dX0_reachVisitors_68 ?_
    refine z_if_le (tgt := 91) S he dX0_reachVisitors_69 (by decide) (fun he => ?_) (fun he => ?_)
    · refine z_iinc (v := (v2 + 1)) (lv' := [(0, .ref (X.2.2 90)), (1, .int v1), (2, .int (v2 + 1)), (3, .int v3), (4, .long t0)]) S [1, 2, 0, 3, 4] 2 dX0_reachVisitors_91 rfl (by rfl) (by decide) rfl ?_
      refine z_goto (tgt := 4) S dX0_reachVisitors_94 (by decide) ?_
      refine z_lv (ks := [0, 1, 2]) rfl ?_
      exact hc _ (Option.some.inj he).symm
    · refine z_aload_n S dX0_reachVisitors_72 rfl 0 rfl ?_
      refine z_getF (j := 94) S fo_RX0_24 4 rfl rfl ok_90 dX0_reachVisitors_73 ?_
      refine z_iload_n S dX0_reachVisitors_76 rfl 2 rfl ?_
      refine z_lload S dX0_reachVisitors_77 4 rfl ?_
      refine z_aload_n S dX0_reachVisitors_79 rfl 0 rfl ?_
      refine z_iload_n S dX0_reachVisitors_80 rfl 3 rfl ?_
      refine z_iload_n S dX0_reachVisitors_81 rfl 2 rfl ?_
      obtain ⟨r5, h9, he⟩ := bnd he
      refine z_cVL (As := [.int v3, .int v2]) S cv_RX0_107 (K_X0_worth  h9) ok_90 (by decide) (q := (RX0, TX0, 8)) rfl rfl ⟨rfl, rfl⟩ ⟨Nat.le_of_ble_eq_true rfl, Nat.le_of_ble_eq_true rfl⟩ ⟨Nat.le_refl _, Nat.le_refl _⟩ rfl rfl (Nat.le_of_ble_eq_true rfl) dX0_reachVisitors_82 ?_
      refine z_lsub S dX0_reachVisitors_85 ?_
      obtain ⟨M6, h9, he⟩ := bnd he
      refine z_cNV (As := [.ref (X.2.2 94), .int v2, .long (t0 - r5)]) S cn_RX0_83 (K_X9_put_ ok_94 h9) ⟨rfl, rfl⟩ ⟨Nat.le_of_ble_eq_true rfl, Nat.le_of_ble_eq_true rfl⟩ ⟨Nat.le_refl _, Nat.le_refl _⟩ rfl rfl (Nat.le_of_ble_eq_true rfl) dX0_reachVisitors_86 ?_
      refine z_iconst (v := 1) S dX0_reachVisitors_89 (by decide) ?_
      refine z_istore_n (lv' := [(0, .ref (X.2.2 90)), (1, .int 1), (2, .int v2)]) S [1, 0, 2] dX0_reachVisitors_90 rfl (by decide) rfl ?_
      refine z_iinc (v := (v2 + 1)) (lv' := [(0, .ref (X.2.2 90)), (1, .int 1), (2, .int (v2 + 1))]) S [1, 2, 0] 2 dX0_reachVisitors_91 rfl (by rfl) (by decide) rfl ?_
      refine z_goto (tgt := 4) S dX0_reachVisitors_94 (by decide) ?_
      refine z_lv (ks := [0, 1, 2]) rfl ?_
      exact hc _ (Option.some.inj he).symm
set_option maxRecDepth 100000 in
set_option maxHeartbeats 4000000 in
theorem p_X0_reachVisitors_L4 {X : Cx} {p : Program} {l : Launch} {e : Env} {s : State} {m : MethodId} {args : Array Value} {below : List Frame} {meth : Method} {c : Code} (S : SB X 0 p s m args meth c cX0_reachVisitors 6 (some .boolean) RX0) {M : Mm} {N : Mm} {r : Bool} {v1 : Int32} {v2 : Int32} {x : (Mm × Int32 × Int32) ⊕ (Mm × Int32)}  (he : f_X0_reachVisitors_L4 M v1 v2 = some x) (hc : ∀ b, x = .inl b → Z X 0 p l e rm_X0_reachVisitors s m args below meth c 0 0 (MQ below (QI X 0 (bI r) N s.heap.size) args s 0 0 (AA X 0 s.heap.size)) 6 b.1 4 [(0, .ref (X.2.2 90)), (1, .int b.2.1), (2, .int b.2.2)] []) (hx : ∀ b, x = .inr b → Z X 0 p l e rm_X0_reachVisitors s m args below meth c 0 0 (MQ below (QI X 0 (bI r) N s.heap.size) args s 0 0 (AA X 0 s.heap.size)) 6 b.1 97 [(1, .int b.2)] []) : Z X 0 p l e rm_X0_reachVisitors s m args below meth c 0 0 (MQ below (QI X 0 (bI r) N s.heap.size) args s 0 0 (AA X 0 s.heap.size)) 6 M 4 [(0, .ref (X.2.2 90)), (1, .int v1), (2, .int v2)] [] := by
  unfold f_X0_reachVisitors_L4 at he
  refine z_iload_n S dX0_reachVisitors_4 rfl 2 rfl ?_
  refine z_aload_n S dX0_reachVisitors_5 rfl 0 rfl ?_
  refine z_getI S fo_RX0_43 rfl ok_90 dX0_reachVisitors_6 ?_
  refine z_icmp_ge (tgt := 97) S he dX0_reachVisitors_9 (by decide) (fun he => ?_) (fun he => ?_)
  · refine z_lv (ks := [1]) rfl ?_
    exact hx _ (Option.some.inj he).symm
  · refine z_aload_n S dX0_reachVisitors_12 rfl 0 rfl ?_
    refine z_getF (j := 92) S fo_RX0_17 2 rfl rfl ok_90 dX0_reachVisitors_13 ?_
    refine z_iload_n S dX0_reachVisitors_16 rfl 2 rfl ?_
    obtain ⟨r1, h9, he⟩ := bnd he
    refine z_cNI (As := [.ref (X.2.2 92), .int v2]) S cn_RX0_97 (K_X9_at ok_92 h9) ⟨rfl, rfl⟩ ⟨Nat.le_of_ble_eq_true rfl, Nat.le_of_ble_eq_true rfl⟩ ⟨Nat.le_refl _, Nat.le_refl _⟩ rfl rfl (Nat.le_of_ble_eq_true rfl) dX0_reachVisitors_17 ?_
    refine z_istore_n (lv' := [(0, .ref (X.2.2 90)), (1, .int v1), (2, .int v2), (3, .int r1)]) S [1, 2, 3, 0] dX0_reachVisitors_20 rfl (by decide) rfl ?_
    refine z_iload_n S dX0_reachVisitors_21 rfl 3 rfl ?_
    refine z_iconst (v := (-1)) S dX0_reachVisitors_22 (by decide) ?_
    refine z_icmp_ne (tgt := 32) S he dX0_reachVisitors_23 (by decide) (fun he => ?_) (fun he => ?_)
    · refine z_aload_n S dX0_reachVisitors_32 rfl 0 rfl ?_
      refine z_getF (j := 95) S fo_RX0_27 5 rfl rfl ok_90 dX0_reachVisitors_33 ?_
      refine z_iload_n S dX0_reachVisitors_36 rfl 3 rfl ?_
      obtain ⟨r2, h9, he⟩ := bnd he
      refine z_cNL (As := [.ref (X.2.2 95), .int r1]) S cn_RX0_88 (K_X9_at_ ok_95 h9) ⟨rfl, rfl⟩ ⟨Nat.le_of_ble_eq_true rfl, Nat.le_of_ble_eq_true rfl⟩ ⟨Nat.le_refl _, Nat.le_refl _⟩ rfl rfl (Nat.le_of_ble_eq_true rfl) dX0_reachVisitors_37 ?_
      exact p_X0_reachVisitors_J4_40 S  he hc hx
    · refine z_ldc2 (v := (-2305843009213693952)) S kc_RX0_92 dX0_reachVisitors_26 ?_
      refine z_goto (tgt := 40) S dX0_reachVisitors_29 (by decide) ?_
      exact p_X0_reachVisitors_J4_40 S  he hc hx
set_option maxRecDepth 100000 in
set_option maxHeartbeats 4000000 in
theorem K_X0_reachVisitors {X : Cx} {l : Launch} {M : Mm} {r : Bool} {N : Mm}  (he : f_X0_reachVisitors M  = some (r, N)) : KI X 0 l yX0_reachVisitors (wz yX0_reachVisitors cX0_reachVisitors 6 (some .boolean)) rm_X0_reachVisitors [.ref (X.2.2 90)] M (bI r) N := by
  intro sz
  refine K_of (Qc := (fun sz => QI X 0 (bI r) N sz)) (own := RX0) (lv0 := [(0, .ref (X.2.2 90))]) (by decide +kernel) rfl (Nat.le_of_ble_eq_true rfl) rfl (fun p e s m args below meth c S => ?_) sz
  · unfold f_X0_reachVisitors at he
    refine z_iconst (v := 0) S dX0_reachVisitors_0 (by decide) ?_
    refine z_istore_n (lv' := [(0, .ref (X.2.2 90)), (1, .int 0)]) S [1, 0] dX0_reachVisitors_1 rfl (by decide) rfl ?_
    refine z_iconst (v := 0) S dX0_reachVisitors_2 (by decide) ?_
    refine z_istore_n (lv' := [(0, .ref (X.2.2 90)), (1, .int 0), (2, .int 0)]) S [1, 2, 0] dX0_reachVisitors_3 rfl (by decide) rfl ?_
    obtain ⟨e_7, hl, he⟩ := bnd he
    have hX : Z X 0 p l e rm_X0_reachVisitors s m args below meth c 0 0 (MQ below (QI X 0 (bI r) N s.heap.size) args s 0 0 (AA X 0 s.heap.size)) 6 e_7.1 97 [(1, .int e_7.2)] [] := by
      refine z_iload_n S dX0_reachVisitors_97 rfl 0 rfl ?_
      rcases z_sw he with ⟨hk9, he⟩ | ⟨hk9, he⟩
      · exact z_zretv (b := false) S hk9 (Prod.mk.inj (Option.some.inj he)) dX0_reachVisitors_98
      · obtain ⟨hk8, he⟩ := grd he
        exact z_zretv (b := true) S hk8 (Prod.mk.inj (Option.some.inj he)) dX0_reachVisitors_98
    exact loopZ (Zh := (fun a_7 => Z X 0 p l e rm_X0_reachVisitors s m args below meth c 0 0 (MQ below (QI X 0 (bI r) N s.heap.size) args s 0 0 (AA X 0 s.heap.size)) 6 a_7.1 4 [(0, .ref (X.2.2 90)), (1, .int a_7.2.1), (2, .int a_7.2.2)] [])) (fun a_7 x hb hc hr => p_X0_reachVisitors_L4 S  hb hc (fun b hxe => by rw [hr b hxe]; exact hX)) FU _ hl
