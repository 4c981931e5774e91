set_option maxRecDepth 100000 in
set_option maxHeartbeats 4000000 in
theorem K_J6_bitCount_0f7a4 {X : Cx} {l : Launch} {M : Mm} {a0 : Int32} {r : Int32}  (he : f_J6_bitCount_0f7a4 M a0 = r) : KI X 0 l yJ6_bitCount_0f7a4 (wz yJ6_bitCount_0f7a4 cJ6_bitCount_0f7a4 1 (some .int)) rm_J6_bitCount_0f7a4 [.int a0] M r M := by
  intro sz
  refine K_of (Qc := (fun sz => QI X 0 r M sz)) (own := RJ6) (lv0 := [(0, .int a0)]) (by decide +kernel) rfl (by decide) rfl (fun p e s m args below meth c S => ?_) sz
  · unfold f_J6_bitCount_0f7a4 at he
    refine z_iload_n S dJ6_bitCount_0f7a4_0 rfl 0 rfl ?_
    refine z_iload_n S dJ6_bitCount_0f7a4_1 rfl 0 rfl ?_
    refine z_iconst (v := 1) S dJ6_bitCount_0f7a4_2 (by decide) ?_
    refine z_iushr S dJ6_bitCount_0f7a4_3 ?_
    refine z_ldcw (v := 1431655765) S kc_RJ6_265 dJ6_bitCount_0f7a4_4 ?_
    refine z_iand S dJ6_bitCount_0f7a4_7 ?_
    refine z_isub S dJ6_bitCount_0f7a4_8 ?_
    refine z_istore_n (lv' := [(0, .int (a0 - ((iush a0 1) &&& 1431655765)))]) S [0] dJ6_bitCount_0f7a4_9 rfl (by decide) rfl ?_
    refine z_iload_n S dJ6_bitCount_0f7a4_10 rfl 0 rfl ?_
    refine z_ldcw (v := 858993459) S kc_RJ6_266 dJ6_bitCount_0f7a4_11 ?_
    refine z_iand S dJ6_bitCount_0f7a4_14 ?_
    refine z_iload_n S dJ6_bitCount_0f7a4_15 rfl 0 rfl ?_
    refine z_iconst (v := 2) S dJ6_bitCount_0f7a4_16 (by decide) ?_
    refine z_iushr S dJ6_bitCount_0f7a4_17 ?_
    refine z_ldcw (v := 858993459) S kc_RJ6_266 dJ6_bitCount_0f7a4_18 ?_
    refine z_iand S dJ6_bitCount_0f7a4_21 ?_
    refine z_iadd S dJ6_bitCount_0f7a4_22 ?_
    refine z_istore_n (lv' := [(0, .int (((a0 - ((iush a0 1) &&& 1431655765)) &&& 858993459) + ((iush (a0 - ((iush a0 1) &&& 1431655765)) 2) &&& 858993459)))]) S [0] dJ6_bitCount_0f7a4_23 rfl (by decide) rfl ?_
    refine z_iload_n S dJ6_bitCount_0f7a4_24 rfl 0 rfl ?_
    refine z_iload_n S dJ6_bitCount_0f7a4_25 rfl 0 rfl ?_
    refine z_iconst (v := 4) S dJ6_bitCount_0f7a4_26 (by decide) ?_
    refine z_iushr S dJ6_bitCount_0f7a4_27 ?_
    refine z_iadd S dJ6_bitCount_0f7a4_28 ?_
    refine z_ldcw (v := 252645135) S kc_RJ6_267 dJ6_bitCount_0f7a4_29 ?_
    refine z_iand S dJ6_bitCount_0f7a4_32 ?_
    refine z_istore_n (lv' := [(0, .int (((((a0 - ((iush a0 1) &&& 1431655765)) &&& 858993459) + ((iush (a0 - ((iush a0 1) &&& 1431655765)) 2) &&& 858993459)) + (iush (((a0 - ((iush a0 1) &&& 1431655765)) &&& 858993459) + ((iush (a0 - ((iush a0 1) &&& 1431655765)) 2) &&& 858993459)) 4)) &&& 252645135))]) S [0] dJ6_bitCount_0f7a4_33 rfl (by decide) rfl ?_
    refine z_iload_n S dJ6_bitCount_0f7a4_34 rfl 0 rfl ?_
    refine z_iload_n S dJ6_bitCount_0f7a4_35 rfl 0 rfl ?_
    refine z_bipush (v := 8) S dJ6_bitCount_0f7a4_36 (by decide) ?_
    refine z_iushr S dJ6_bitCount_0f7a4_38 ?_
    refine z_iadd S dJ6_bitCount_0f7a4_39 ?_
    refine z_istore_n (lv' := [(0, .int ((((((a0 - ((iush a0 1) &&& 1431655765)) &&& 858993459) + ((iush (a0 - ((iush a0 1) &&& 1431655765)) 2) &&& 858993459)) + (iush (((a0 - ((iush a0 1) &&& 1431655765)) &&& 858993459) + ((iush (a0 - ((iush a0 1) &&& 1431655765)) 2) &&& 858993459)) 4)) &&& 252645135) + (iush (((((a0 - ((iush a0 1) &&& 1431655765)) &&& 858993459) + ((iush (a0 - ((iush a0 1) &&& 1431655765)) 2) &&& 858993459)) + (iush (((a0 - ((iush a0 1) &&& 1431655765)) &&& 858993459) + ((iush (a0 - ((iush a0 1) &&& 1431655765)) 2) &&& 858993459)) 4)) &&& 252645135) 8)))]) S [0] dJ6_bitCount_0f7a4_40 rfl (by decide) rfl ?_
    refine z_iload_n S dJ6_bitCount_0f7a4_41 rfl 0 rfl ?_
    refine z_iload_n S dJ6_bitCount_0f7a4_42 rfl 0 rfl ?_
    refine z_bipush (v := 16) S dJ6_bitCount_0f7a4_43 (by decide) ?_
    refine z_iushr S dJ6_bitCount_0f7a4_45 ?_
    refine z_iadd S dJ6_bitCount_0f7a4_46 ?_
    refine z_istore_n (lv' := [(0, .int (((((((a0 - ((iush a0 1) &&& 1431655765)) &&& 858993459) + ((iush (a0 - ((iush a0 1) &&& 1431655765)) 2) &&& 858993459)) + (iush (((a0 - ((iush a0 1) &&& 1431655765)) &&& 858993459) + ((iush (a0 - ((iush a0 1) &&& 1431655765)) 2) &&& 858993459)) 4)) &&& 252645135) + (iush (((((a0 - ((iush a0 1) &&& 1431655765)) &&& 858993459) + ((iush (a0 - ((iush a0 1) &&& 1431655765)) 2) &&& 858993459)) + (iush (((a0 - ((iush a0 1) &&& 1431655765)) &&& 858993459) + ((iush (a0 - ((iush a0 1) &&& 1431655765)) 2) &&& 858993459)) 4)) &&& 252645135) 8)) + (iush ((((((a0 - ((iush a0 1) &&& 1431655765)) &&& 858993459) + ((iush (a0 - ((iush a0 1) &&& 1431655765)) 2) &&& 858993459)) + (iush (((a0 - ((iush a0 1) &&& 1431655765)) &&& 858993459) + ((iush (a0 - ((iush a0 1) &&& 1431655765)) 2) &&& 858993459)) 4)) &&& 252645135) + (iush (((((a0 - ((iush a0 1) &&& 1431655765)) &&& 858993459) + ((iush (a0 - ((iush a0 1) &&& 1431655765)) 2) &&& 858993459)) + (iush (((a0 - ((iush a0 1) &&& 1431655765)) &&& 858993459) + ((iush (a0 - ((iush a0 1) &&& 1431655765)) 2) &&& 858993459)) 4)) &&& 252645135) 8)) 16)))]) S [0] dJ6_bitCount_0f7a4_47 rfl (by decide) rfl ?_
    refine z_iload_n S dJ6_bitCount_0f7a4_48 rfl 0 rfl ?_
    refine z_bipush (v := 63) S dJ6_bitCount_0f7a4_49 (by decide) ?_
    refine z_iand S dJ6_bitCount_0f7a4_51 ?_
    exact z_iret S (⟨he, rfl⟩) dJ6_bitCount_0f7a4_52
set_option maxRecDepth 100000 in
set_option maxHeartbeats 4000000 in
theorem p_J6_numberOfTrailingZeros_0f7a4_J74 {X : Cx} {p : Program} {l : Launch} {e : Env} {s : State} {m : MethodId} {args : Array Value} {below : List Frame} {meth : Method} {c : Code} (S : SB X 0 p s m args meth c cJ6_numberOfTrailingZeros_0f7a4 2 (some .int) RJ6) {M : Mm} {r : Int32} {v0 : Int32} {v1 : Int32}  (he : f_J6_numberOfTrailingZeros_0f7a4_J74 M v0 v1 = r) : Z X 0 p l e rm_J6_numberOfTrailingZeros_0f7a4 s m args below meth c 0 0 (MQ below (QI X 0 r M s.heap.size) args s 0 0 (AA X 0 s.heap.size)) 2 M 74 [(0, .int v0), (1, .int v1)] [] := by
  unfold f_J6_numberOfTrailingZeros_0f7a4_J74 at he
  refine z_iload_n S dJ6_numberOfTrailingZeros_0f7a4_74 rfl 1 rfl ?_
  refine z_iload_n S dJ6_numberOfTrailingZeros_0f7a4_75 rfl 0 rfl ?_
  refine z_iconst (v := 1) S dJ6_numberOfTrailingZeros_0f7a4_76 (by decide) ?_
  refine z_iushr S dJ6_numberOfTrailingZeros_0f7a4_77 ?_
  refine z_iadd S dJ6_numberOfTrailingZeros_0f7a4_78 ?_
  exact z_iret S (⟨he, rfl⟩) dJ6_numberOfTrailingZeros_0f7a4_79
set_option maxRecDepth 100000 in
set_option maxHeartbeats 4000000 in
theorem p_J6_numberOfTrailingZeros_0f7a4_J62 {X : Cx} {p : Program} {l : Launch} {e : Env} {s : State} {m : MethodId} {args : Array Value} {below : List Frame} {meth : Method} {c : Code} (S : SB X 0 p s m args meth c cJ6_numberOfTrailingZeros_0f7a4 2 (some .int) RJ6) {M : Mm} {r : Int32} {v0 : Int32} {v1 : Int32}  (he : f_J6_numberOfTrailingZeros_0f7a4_J62 M v0 v1 = r) : Z X 0 p l e rm_J6_numberOfTrailingZeros_0f7a4 s m args below meth c 0 0 (MQ below (QI X 0 r M s.heap.size) args s 0 0 (AA X 0 s.heap.size)) 2 M 62 [(0, .int v0), (1, .int v1)] [] := by
  unfold f_J6_numberOfTrailingZeros_0f7a4_J62 at he
  refine z_iload_n S dJ6_numberOfTrailingZeros_0f7a4_62 rfl 0 rfl ?_
  refine z_iconst (v := 4) S dJ6_numberOfTrailingZeros_0f7a4_63 (by decide) ?_
  refine z_icmp_le (tgt := 74) S he dJ6_numberOfTrailingZeros_0f7a4_64 (by decide) (fun he => ?_) (fun he => ?_)
  · exact p_J6_numberOfTrailingZeros_0f7a4_J74 S  he
  · refine z_iinc (v := (v1 + 2)) (lv' := [(0, .int v0), (1, .int (v1 + 2))]) S [1, 0] 1 dJ6_numberOfTrailingZeros_0f7a4_67 rfl (by rfl) (by decide) rfl ?_
    refine z_iload_n S dJ6_numberOfTrailingZeros_0f7a4_70 rfl 0 rfl ?_
    refine z_iconst (v := 2) S dJ6_numberOfTrailingZeros_0f7a4_71 (by decide) ?_
    refine z_iushr S dJ6_numberOfTrailingZeros_0f7a4_72 ?_
    refine z_istore_n (lv' := [(0, .int (iush v0 2)), (1, .int (v1 + 2))]) S [0, 1] dJ6_numberOfTrailingZeros_0f7a4_73 rfl (by decide) rfl ?_
    exact p_J6_numberOfTrailingZeros_0f7a4_J74 S  he
set_option maxRecDepth 100000 in
set_option maxHeartbeats 4000000 in
theorem p_J6_numberOfTrailingZeros_0f7a4_J49 {X : Cx} {p : Program} {l : Launch} {e : Env} {s : State} {m : MethodId} {args : Array Value} {below : List Frame} {meth : Method} {c : Code} (S : SB X 0 p s m args meth c cJ6_numberOfTrailingZeros_0f7a4 2 (some .int) RJ6) {M : Mm} {r : Int32} {v0 : Int32} {v1 : Int32}  (he : f_J6_numberOfTrailingZeros_0f7a4_J49 M v0 v1 = r) : Z X 0 p l e rm_J6_numberOfTrailingZeros_0f7a4 s m args below meth c 0 0 (MQ below (QI X 0 r M s.heap.size) args s 0 0 (AA X 0 s.heap.size)) 2 M 49 [(0, .int v0), (1, .int v1)] [] := by
  unfold f_J6_numberOfTrailingZeros_0f7a4_J49 at he
  refine z_iload_n S dJ6_numberOfTrailingZeros_0f7a4_49 rfl 0 rfl ?_
  refine z_bipush (v := 16) S dJ6_numberOfTrailingZeros_0f7a4_50 (by decide) ?_
  refine z_icmp_le (tgt := 62) S he dJ6_numberOfTrailingZeros_0f7a4_52 (by decide) (fun he => ?_) (fun he => ?_)
  · exact p_J6_numberOfTrailingZeros_0f7a4_J62 S  he
  · refine z_iinc (v := (v1 + 4)) (lv' := [(0, .int v0), (1, .int (v1 + 4))]) S [1, 0] 1 dJ6_numberOfTrailingZeros_0f7a4_55 rfl (by rfl) (by decide) rfl ?_
    refine z_iload_n S dJ6_numberOfTrailingZeros_0f7a4_58 rfl 0 rfl ?_
    refine z_iconst (v := 4) S dJ6_numberOfTrailingZeros_0f7a4_59 (by decide) ?_
    refine z_iushr S dJ6_numberOfTrailingZeros_0f7a4_60 ?_
    refine z_istore_n (lv' := [(0, .int (iush v0 4)), (1, .int (v1 + 4))]) S [0, 1] dJ6_numberOfTrailingZeros_0f7a4_61 rfl (by decide) rfl ?_
    exact p_J6_numberOfTrailingZeros_0f7a4_J62 S  he
set_option maxRecDepth 100000 in
set_option maxHeartbeats 4000000 in
theorem p_J6_numberOfTrailingZeros_0f7a4_J34 {X : Cx} {p : Program} {l : Launch} {e : Env} {s : State} {m : MethodId} {args : Array Value} {below : List Frame} {meth : Method} {c : Code} (S : SB X 0 p s m args meth c cJ6_numberOfTrailingZeros_0f7a4 2 (some .int) RJ6) {M : Mm} {r : Int32} {v0 : Int32} {v1 : Int32}  (he : f_J6_numberOfTrailingZeros_0f7a4_J34 M v0 v1 = r) : Z X 0 p l e rm_J6_numberOfTrailingZeros_0f7a4 s m args below meth c 0 0 (MQ below (QI X 0 r M s.heap.size) args s 0 0 (AA X 0 s.heap.size)) 2 M 34 [(0, .int v0), (1, .int v1)] [] := by
  unfold f_J6_numberOfTrailingZeros_0f7a4_J34 at he
  refine z_iload_n S dJ6_numberOfTrailingZeros_0f7a4_34 rfl 0 rfl ?_
  refine z_sipush (v := 256) S dJ6_numberOfTrailingZeros_0f7a4_35 (by decide) ?_
  refine z_icmp_le (tgt := 49) S he dJ6_numberOfTrailingZeros_0f7a4_38 (by decide) (fun he => ?_) (fun he => ?_)
  · exact p_J6_numberOfTrailingZeros_0f7a4_J49 S  he
  · refine z_iinc (v := (v1 + 8)) (lv' := [(0, .int v0), (1, .int (v1 + 8))]) S [1, 0] 1 dJ6_numberOfTrailingZeros_0f7a4_41 rfl (by rfl) (by decide) rfl ?_
    refine z_iload_n S dJ6_numberOfTrailingZeros_0f7a4_44 rfl 0 rfl ?_
    refine z_bipush (v := 8) S dJ6_numberOfTrailingZeros_0f7a4_45 (by decide) ?_
    refine z_iushr S dJ6_numberOfTrailingZeros_0f7a4_47 ?_
    refine z_istore_n (lv' := [(0, .int (iush v0 8)), (1, .int (v1 + 8))]) S [0, 1] dJ6_numberOfTrailingZeros_0f7a4_48 rfl (by decide) rfl ?_
    exact p_J6_numberOfTrailingZeros_0f7a4_J49 S  he
set_option maxRecDepth 100000 in
set_option maxHeartbeats 4000000 in
theorem K_J6_numberOfTrailingZeros_0f7a4 {X : Cx} {l : Launch} {M : Mm} {a0 : Int32} {r : Int32}  (he : f_J6_numberOfTrailingZeros_0f7a4 M a0 = r) : KI X 0 l yJ6_numberOfTrailingZeros_0f7a4 (wz yJ6_numberOfTrailingZeros_0f7a4 cJ6_numberOfTrailingZeros_0f7a4 2 (some .int)) rm_J6_numberOfTrailingZeros_0f7a4 [.int a0] M r M := by
  intro sz
  refine K_of (Qc := (fun sz => QI X 0 r M sz)) (own := RJ6) (lv0 := [(0, .int a0)]) (by decide +kernel) rfl (by decide) rfl (fun p e s m args below meth c S => ?_) sz
  · unfold f_J6_numberOfTrailingZeros_0f7a4 at he
    refine z_iload_n S dJ6_numberOfTrailingZeros_0f7a4_0 rfl 0 rfl ?_
    refine z_iconst (v := (-1)) S dJ6_numberOfTrailingZeros_0f7a4_1 (by decide) ?_
    refine z_ixor S dJ6_numberOfTrailingZeros_0f7a4_2 ?_
    refine z_iload_n S dJ6_numberOfTrailingZeros_0f7a4_3 rfl 0 rfl ?_
    refine z_iconst (v := 1) S dJ6_numberOfTrailingZeros_0f7a4_4 (by decide) ?_
    refine z_isub S dJ6_numberOfTrailingZeros_0f7a4_5 ?_
    refine z_iand S dJ6_numberOfTrailingZeros_0f7a4_6 ?_
    refine z_istore_n (lv' := [(0, .int ((a0 ^^^ (-1)) &&& (a0 - 1)))]) S [0] dJ6_numberOfTrailingZeros_0f7a4_7 rfl (by decide) rfl ?_
    refine z_iload_n S dJ6_numberOfTrailingZeros_0f7a4_8 rfl 0 rfl ?_
    refine z_if_gt (tgt := 17) S he dJ6_numberOfTrailingZeros_0f7a4_9 (by decide) (fun he => ?_) (fun he => ?_)
    · refine z_iconst (v := 1) S dJ6_numberOfTrailingZeros_0f7a4_17 (by decide) ?_
      refine z_istore_n (lv' := [(0, .int ((a0 ^^^ (-1)) &&& (a0 - 1))), (1, .int 1)]) S [1, 0] dJ6_numberOfTrailingZeros_0f7a4_18 rfl (by decide) rfl ?_
      refine z_iload_n S dJ6_numberOfTrailingZeros_0f7a4_19 rfl 0 rfl ?_
      refine z_ldcw (v := 65536) S kc_RJ6_264 dJ6_numberOfTrailingZeros_0f7a4_20 ?_
      refine z_icmp_le (tgt := 34) S he dJ6_numberOfTrailingZeros_0f7a4_23 (by decide) (fun he => ?_) (fun he => ?_)
      · exact p_J6_numberOfTrailingZeros_0f7a4_J34 S  he
      · refine z_iinc (v := (1 + 16)) (lv' := [(0, .int ((a0 ^^^ (-1)) &&& (a0 - 1))), (1, .int (1 + 16))]) S [1, 0] 1 dJ6_numberOfTrailingZeros_0f7a4_26 rfl (by rfl) (by decide) rfl ?_
        refine z_iload_n S dJ6_numberOfTrailingZeros_0f7a4_29 rfl 0 rfl ?_
        refine z_bipush (v := 16) S dJ6_numberOfTrailingZeros_0f7a4_30 (by decide) ?_
        refine z_iushr S dJ6_numberOfTrailingZeros_0f7a4_32 ?_
        refine z_istore_n (lv' := [(0, .int (iush ((a0 ^^^ (-1)) &&& (a0 - 1)) 16)), (1, .int (1 + 16))]) S [0, 1] dJ6_numberOfTrailingZeros_0f7a4_33 rfl (by decide) rfl ?_
        exact p_J6_numberOfTrailingZeros_0f7a4_J34 S  he
    · refine z_iload_n S dJ6_numberOfTrailingZeros_0f7a4_12 rfl 0 rfl ?_
      refine z_bipush (v := 32) S dJ6_numberOfTrailingZeros_0f7a4_13 (by decide) ?_
      refine z_iand S dJ6_numberOfTrailingZeros_0f7a4_15 ?_
      exact z_iret S (⟨he, rfl⟩) dJ6_numberOfTrailingZeros_0f7a4_16
set_option maxRecDepth 100000 in
set_option maxHeartbeats 4000000 in
theorem p_J7_fill_53178_L5 {X : Cx} {p : Program} {l : Launch} {e : Env} {s : State} {m : MethodId} {args : Array Value} {below : List Frame} {meth : Method} {c : Code} (S : SB X 0 p s m args meth c cJ7_fill_53178 4 none RJ7) {M : Mm} {N : Mm} {v0 : Nat} {v1 : Int32} {v2 : Int32} {v3 : Int32} {x : (Mm × Int32) ⊕ Mm} (h_v0 : OK 0 v0 30) (he : f_J7_fill_53178_L5 M v0 v1 v2 v3 = some x) (hc : ∀ b, x = .inl b → Z X 0 p l e rm_J7_fill_53178 s m args below meth c 0 0 (MQ below (QV X 0 N s.heap.size) args s 0 0 (AA X 0 s.heap.size)) 4 b.1 5 [(0, .ref (X.2.2 v0)), (1, .int v1), (2, .int b.2), (3, .int v3)] []) (hx : ∀ b, x = .inr b → Z X 0 p l e rm_J7_fill_53178 s m args below meth c 0 0 (MQ below (QV X 0 N s.heap.size) args s 0 0 (AA X 0 s.heap.size)) 4 b 20 [] []) : Z X 0 p l e rm_J7_fill_53178 s m args below meth c 0 0 (MQ below (QV X 0 N s.heap.size) args s 0 0 (AA X 0 s.heap.size)) 4 M 5 [(0, .ref (X.2.2 v0)), (1, .int v1), (2, .int v2), (3, .int v3)] [] := by
  unfold f_J7_fill_53178_L5 at he
  refine z_iload_n S dJ7_fill_53178_5 rfl 2 rfl ?_
  refine z_iload_n S dJ7_fill_53178_6 rfl 3 rfl ?_
  refine z_icmp_ge (tgt := 20) S he dJ7_fill_53178_7 (by decide) (fun he => ?_) (fun he => ?_)
  · refine z_lv (ks := []) rfl ?_
    exact hx _ (Option.some.inj he).symm
  · refine z_aload_n S dJ7_fill_53178_10 rfl 0 rfl ?_
    refine z_iload_n S dJ7_fill_53178_11 rfl 2 rfl ?_
    refine z_iload_n S dJ7_fill_53178_12 rfl 1 rfl ?_
    refine z_iastb S h_v0 rfl he dJ7_fill_53178_13 (fun M1 he => ?_)
    refine z_iinc (v := (v2 + 1)) (lv' := [(0, .ref (X.2.2 v0)), (1, .int v1), (2, .int (v2 + 1)), (3, .int v3)]) S [1, 2, 0, 3] 2 dJ7_fill_53178_14 rfl (by rfl) (by decide) rfl ?_
    refine z_goto (tgt := 5) S dJ7_fill_53178_17 (by decide) ?_
    refine z_lv (ks := [0, 1, 2, 3]) rfl ?_
    exact hc _ (Option.some.inj he).symm
set_option maxRecDepth 100000 in
set_option maxHeartbeats 4000000 in
theorem K_J7_fill_53178 {X : Cx} {l : Launch} {M : Mm} {a0 : Nat} {a1 : Int32} {N : Mm} (h_a0 : OK 0 a0 30) (he : f_J7_fill_53178 M a0 a1 = some N) : KV X 0 l yJ7_fill_53178 (wz yJ7_fill_53178 cJ7_fill_53178 4 none) rm_J7_fill_53178 [.ref (X.2.2 a0), .int a1] M N := by
  intro sz
  refine K_of (Qc := (fun sz => QV X 0 N sz)) (own := RJ7) (lv0 := [(0, .ref (X.2.2 a0)), (1, .int a1)]) (by decide +kernel) rfl (by decide) rfl (fun p e s m args below meth c S => ?_) sz
  · unfold f_J7_fill_53178 at he
    refine z_iconst (v := 0) S dJ7_fill_53178_0 (by decide) ?_
    refine z_istore_n (lv' := [(0, .ref (X.2.2 a0)), (1, .int a1), (2, .int 0)]) S [1, 2, 0] dJ7_fill_53178_1 rfl (by decide) rfl ?_
    refine z_aload_n S dJ7_fill_53178_2 rfl 0 rfl ?_
    refine z_alen (v := Int32.ofNat (ln a0)) S h_a0 (cel_i h_a0.2.2) rfl rfl rfl dJ7_fill_53178_3 ?_
    refine z_istore_n (lv' := [(0, .ref (X.2.2 a0)), (1, .int a1), (2, .int 0), (3, .int (Int32.ofNat (ln a0)))]) S [1, 2, 3, 0] dJ7_fill_53178_4 rfl (by decide) rfl ?_
    obtain ⟨e_2, hl, he⟩ := bnd he
    have hX : Z X 0 p l e rm_J7_fill_53178 s m args below meth c 0 0 (MQ below (QV X 0 N s.heap.size) args s 0 0 (AA X 0 s.heap.size)) 4 e_2 20 [] [] := by
      exact z_vret S (Option.some.inj he) dJ7_fill_53178_20
    exact loopZ (Zh := (fun a_2 => Z X 0 p l e rm_J7_fill_53178 s m args below meth c 0 0 (MQ below (QV X 0 N s.heap.size) args s 0 0 (AA X 0 s.heap.size)) 4 a_2.1 5 [(0, .ref (X.2.2 a0)), (1, .int a1), (2, .int a_2.2), (3, .int (Int32.ofNat (ln a0)))] [])) (fun a_2 x hb hc hr => p_J7_fill_53178_L5 S h_a0 hb hc (fun b hxe => by rw [hr b hxe]; exact hX)) FU _ hl
set_option maxRecDepth 100000 in
set_option maxHeartbeats 4000000 in
theorem p_J7_fill_d0a16_L6 {X : Cx} {p : Program} {l : Launch} {e : Env} {s : State} {m : MethodId} {args : Array Value} {below : List Frame} {meth : Method} {c : Code} (S : SB X 0 p s m args meth c cJ7_fill_d0a16 5 none RJ7) {M : Mm} {N : Mm} {v0 : Nat} {v1 : Int64} {v3 : Int32} {v4 : Int32} {x : (Mm × Int32) ⊕ Mm} (h_v0 : OK 0 v0 31) (he : f_J7_fill_d0a16_L6 M v0 v1 v3 v4 = some x) (hc : ∀ b, x = .inl b → Z X 0 p l e rm_J7_fill_d0a16 s m args below meth c 0 0 (MQ below (QV X 0 N s.heap.size) args s 0 0 (AA X 0 s.heap.size)) 5 b.1 6 [(0, .ref (X.2.2 v0)), (1, .long v1), (3, .int b.2), (4, .int v4)] []) (hx : ∀ b, x = .inr b → Z X 0 p l e rm_J7_fill_d0a16 s m args below meth c 0 0 (MQ below (QV X 0 N s.heap.size) args s 0 0 (AA X 0 s.heap.size)) 5 b 22 [] []) : Z X 0 p l e rm_J7_fill_d0a16 s m args below meth c 0 0 (MQ below (QV X 0 N s.heap.size) args s 0 0 (AA X 0 s.heap.size)) 5 M 6 [(0, .ref (X.2.2 v0)), (1, .long v1), (3, .int v3), (4, .int v4)] [] := by
  unfold f_J7_fill_d0a16_L6 at he
  refine z_iload_n S dJ7_fill_d0a16_6 rfl 2 rfl ?_
  refine z_iload S dJ7_fill_d0a16_7 3 rfl ?_
  refine z_icmp_ge (tgt := 22) S he dJ7_fill_d0a16_9 (by decide) (fun he => ?_) (fun he => ?_)
  · refine z_lv (ks := []) rfl ?_
    exact hx _ (Option.some.inj he).symm
  · refine z_aload_n S dJ7_fill_d0a16_12 rfl 0 rfl ?_
    refine z_iload_n S dJ7_fill_d0a16_13 rfl 2 rfl ?_
    refine z_lload_n S dJ7_fill_d0a16_14 rfl 1 rfl ?_
    refine z_lastb S h_v0 rfl he dJ7_fill_d0a16_15 (fun M1 he => ?_)
    refine z_iinc (v := (v3 + 1)) (lv' := [(0, .ref (X.2.2 v0)), (1, .long v1), (3, .int (v3 + 1)), (4, .int v4)]) S [1, 2, 0, 3] 2 dJ7_fill_d0a16_16 rfl (by rfl) (by decide) rfl ?_
    refine z_goto (tgt := 6) S dJ7_fill_d0a16_19 (by decide) ?_
    refine z_lv (ks := [0, 1, 2, 3]) rfl ?_
    exact hc _ (Option.some.inj he).symm
set_option maxRecDepth 100000 in
set_option maxHeartbeats 4000000 in
theorem K_J7_fill_d0a16 {X : Cx} {l : Launch} {M : Mm} {a0 : Nat} {a1 : Int64} {N : Mm} (h_a0 : OK 0 a0 31) (he : f_J7_fill_d0a16 M a0 a1 = some N) : KV X 0 l yJ7_fill_d0a16 (wz yJ7_fill_d0a16 cJ7_fill_d0a16 5 none) rm_J7_fill_d0a16 [.ref (X.2.2 a0), .long a1] M N := by
  intro sz
  refine K_of (Qc := (fun sz => QV X 0 N sz)) (own := RJ7) (lv0 := [(0, .ref (X.2.2 a0)), (1, .long a1)]) (by decide +kernel) rfl (by decide) rfl (fun p e s m args below meth c S => ?_) sz
  · unfold f_J7_fill_d0a16 at he
    refine z_iconst (v := 0) S dJ7_fill_d0a16_0 (by decide) ?_
    refine z_istore_n (lv' := [(0, .ref (X.2.2 a0)), (1, .long a1), (3, .int 0)]) S [1, 2, 0] dJ7_fill_d0a16_1 rfl (by decide) rfl ?_
    refine z_aload_n S dJ7_fill_d0a16_2 rfl 0 rfl ?_
    refine z_alen (v := Int32.ofNat (ln a0)) S h_a0 (cel_j h_a0.2.2) rfl rfl rfl dJ7_fill_d0a16_3 ?_
    refine z_istore (lv' := [(0, .ref (X.2.2 a0)), (1, .long a1), (3, .int 0), (4, .int (Int32.ofNat (ln a0)))]) S [1, 2, 3, 0] dJ7_fill_d0a16_4 (by decide) rfl ?_
    obtain ⟨e_2, hl, he⟩ := bnd he
    have hX : Z X 0 p l e rm_J7_fill_d0a16 s m args below meth c 0 0 (MQ below (QV X 0 N s.heap.size) args s 0 0 (AA X 0 s.heap.size)) 5 e_2 22 [] [] := by
      exact z_vret S (Option.some.inj he) dJ7_fill_d0a16_22
    exact loopZ (Zh := (fun a_2 => Z X 0 p l e rm_J7_fill_d0a16 s m args below meth c 0 0 (MQ below (QV X 0 N s.heap.size) args s 0 0 (AA X 0 s.heap.size)) 5 a_2.1 6 [(0, .ref (X.2.2 a0)), (1, .long a1), (3, .int a_2.2), (4, .int (Int32.ofNat (ln a0)))] [])) (fun a_2 x hb hc hr => p_J7_fill_d0a16_L6 S h_a0 hb hc (fun b hxe => by rw [hr b hxe]; exact hX)) FU _ hl
set_option maxRecDepth 100000 in
set_option maxHeartbeats 4000000 in
theorem K_J9_max_7cf53 {X : Cx} {l : Launch} {M : Mm} {a0 : Int32} {a1 : Int32} {r : Int32}  (he : f_J9_max_7cf53 M a0 a1 = r) : KI X 0 l yJ9_max_7cf53 (wz yJ9_max_7cf53 cJ9_max_7cf53 2 (some .int)) rm_J9_max_7cf53 [.int a0, .int a1] M r M := by
  intro sz
  refine K_of (Qc := (fun sz => QI X 0 r M sz)) (own := RJ9) (lv0 := [(0, .int a0), (1, .int a1)]) (by decide +kernel) rfl (by decide) rfl (fun p e s m args below meth c S => ?_) sz
  · unfold f_J9_max_7cf53 at he
    refine z_iload_n S dJ9_max_7cf53_0 rfl 0 rfl ?_
    refine z_iload_n S dJ9_max_7cf53_1 rfl 1 rfl ?_
    refine z_icmp_lt (tgt := 9) S he dJ9_max_7cf53_2 (by decide) (fun he => ?_) (fun he => ?_)
    · refine z_iload_n S dJ9_max_7cf53_9 rfl 1 rfl ?_
      exact z_iret S (⟨he, rfl⟩) dJ9_max_7cf53_10
    · refine z_iload_n S dJ9_max_7cf53_5 rfl 0 rfl ?_
      refine z_goto (tgt := 10) S dJ9_max_7cf53_6 (by decide) ?_
      exact z_iret S (⟨he, rfl⟩) dJ9_max_7cf53_10
set_option maxRecDepth 100000 in
set_option maxHeartbeats 4000000 in
theorem K_J9_min_7cf53 {X : Cx} {l : Launch} {M : Mm} {a0 : Int32} {a1 : Int32} {r : Int32}  (he : f_J9_min_7cf53 M a0 a1 = r) : KI X 0 l yJ9_min_7cf53 (wz yJ9_min_7cf53 cJ9_min_7cf53 2 (some .int)) rm_J9_min_7cf53 [.int a0, .int a1] M r M := by
  intro sz
  refine K_of (Qc := (fun sz => QI X 0 r M sz)) (own := RJ9) (lv0 := [(0, .int a0), (1, .int a1)]) (by decide +kernel) rfl (by decide) rfl (fun p e s m args below meth c S => ?_) sz
  · unfold f_J9_min_7cf53 at he
    refine z_iload_n S dJ9_min_7cf53_0 rfl 0 rfl ?_
    refine z_iload_n S dJ9_min_7cf53_1 rfl 1 rfl ?_
    refine z_icmp_gt (tgt := 9) S he dJ9_min_7cf53_2 (by decide) (fun he => ?_) (fun he => ?_)
    · refine z_iload_n S dJ9_min_7cf53_9 rfl 1 rfl ?_
      exact z_iret S (⟨he, rfl⟩) dJ9_min_7cf53_10
    · refine z_iload_n S dJ9_min_7cf53_5 rfl 0 rfl ?_
      refine z_goto (tgt := 10) S dJ9_min_7cf53_6 (by decide) ?_
      exact z_iret S (⟨he, rfl⟩) dJ9_min_7cf53_10
set_option maxRecDepth 100000 in
set_option maxHeartbeats 4000000 in
theorem K_X4_copyFrom {X : Cx} {l : Launch} {M : Mm} {a0 : Nat} {a1 : Nat} {N : Mm} (h_a0 : OK 0 a0 4) (h_a1 : OK 0 a1 4) (he : f_X4_copyFrom M a0 a1 = some N) : KV X 0 l yX4_copyFrom (wz yX4_copyFrom cX4_copyFrom 2 none) rm_X4_copyFrom [.ref (X.2.2 a0), .ref (X.2.2 a1)] M N := by
  intro sz
  refine K_of (Qc := (fun sz => QV X 0 N sz)) (own := RX4) (lv0 := [(0, .ref (X.2.2 a0)), (1, .ref (X.2.2 a1))]) (by decide +kernel) rfl (by decide) rfl (fun p e s m args below meth c S => ?_) sz
  · unfold f_X4_copyFrom at he
    refine z_aload_n S dX4_copyFrom_0 rfl 1 rfl ?_
    refine z_getF (j := (a1 + 1)) S fo_RX4_9 1 rfl rfl h_a1 dX4_copyFrom_1 ?_
    refine z_iconst (v := 0) S dX4_copyFrom_4 (by decide) ?_
    refine z_aload_n S dX4_copyFrom_5 rfl 0 rfl ?_
    refine z_getF (j := (a0 + 1)) S fo_RX4_9 1 rfl rfl h_a0 dX4_copyFrom_6 ?_
    refine z_iconst (v := 0) S dX4_copyFrom_9 (by decide) ?_
    refine z_aload_n S dX4_copyFrom_10 rfl 0 rfl ?_
    refine z_getF (j := (a0 + 1)) S fo_RX4_9 1 rfl rfl h_a0 dX4_copyFrom_11 ?_
    refine z_alen (v := 45) S (okf4_1 h_a0).1 (cel_i (okf4_1 h_a0).1.2.2) rfl (okf4_1 h_a0).2 rfl dX4_copyFrom_14 ?_
    refine z_copyb S ca_RX4_28 (okf4_1 h_a1).1 (okf4_1 h_a0).1 (okf4_1 h_a1).2 (okf4_1 h_a0).2 (by decide) (by decide) (Nat.le_of_ble_eq_true rfl) (Nat.le_of_ble_eq_true rfl) he dX4_copyFrom_15 (fun M1 he => ?_)
    refine z_aload_n S dX4_copyFrom_18 rfl 1 rfl ?_
    refine z_getF (j := (a1 + 2)) S fo_RX4_15 2 rfl rfl h_a1 dX4_copyFrom_19 ?_
    refine z_iconst (v := 0) S dX4_copyFrom_22 (by decide) ?_
    refine z_aload_n S dX4_copyFrom_23 rfl 0 rfl ?_
    refine z_getF (j := (a0 + 2)) S fo_RX4_15 2 rfl rfl h_a0 dX4_copyFrom_24 ?_
    refine z_iconst (v := 0) S dX4_copyFrom_27 (by decide) ?_
    refine z_aload_n S dX4_copyFrom_28 rfl 0 rfl ?_
    refine z_getF (j := (a0 + 2)) S fo_RX4_15 2 rfl rfl h_a0 dX4_copyFrom_29 ?_
    refine z_alen (v := 50) S (okf4_2 h_a0).1 (cel_i (okf4_2 h_a0).1.2.2) rfl (okf4_2 h_a0).2 rfl dX4_copyFrom_32 ?_
    refine z_copyb S ca_RX4_28 (okf4_2 h_a1).1 (okf4_2 h_a0).1 (okf4_2 h_a1).2 (okf4_2 h_a0).2 (by decide) (by decide) (Nat.le_of_ble_eq_true rfl) (Nat.le_of_ble_eq_true rfl) he dX4_copyFrom_33 (fun M2 he => ?_)
    refine z_aload_n S dX4_copyFrom_36 rfl 1 rfl ?_
    refine z_getF (j := (a1 + 3)) S fo_RX4_18 3 rfl rfl h_a1 dX4_copyFrom_37 ?_
    refine z_iconst (v := 0) S dX4_copyFrom_40 (by decide) ?_
    refine z_aload_n S dX4_copyFrom_41 rfl 0 rfl ?_
    refine z_getF (j := (a0 + 3)) S fo_RX4_18 3 rfl rfl h_a0 dX4_copyFrom_42 ?_
    refine z_iconst (v := 0) S dX4_copyFrom_45 (by decide) ?_
    refine z_aload_n S dX4_copyFrom_46 rfl 0 rfl ?_
    refine z_getF (j := (a0 + 3)) S fo_RX4_18 3 rfl rfl h_a0 dX4_copyFrom_47 ?_
    refine z_alen (v := 300) S (okf4_3 h_a0).1 (cel_i (okf4_3 h_a0).1.2.2) rfl (okf4_3 h_a0).2 rfl dX4_copyFrom_50 ?_
    refine z_copyb S ca_RX4_28 (okf4_3 h_a1).1 (okf4_3 h_a0).1 (okf4_3 h_a1).2 (okf4_3 h_a0).2 (by decide) (by decide) (Nat.le_of_ble_eq_true rfl) (Nat.le_of_ble_eq_true rfl) he dX4_copyFrom_51 (fun M3 he => ?_)
    refine z_aload_n S dX4_copyFrom_54 rfl 0 rfl ?_
    refine z_aload_n S dX4_copyFrom_55 rfl 1 rfl ?_
    refine z_getI S fo_RX4_34 rfl h_a1 dX4_copyFrom_56 ?_
    refine z_putIb S fo_RX4_34p rfl h_a0 rfl rfl he dX4_copyFrom_59 (fun M4 he => ?_)
    refine z_aload_n S dX4_copyFrom_62 rfl 0 rfl ?_
    refine z_aload_n S dX4_copyFrom_63 rfl 1 rfl ?_
    refine z_getI S fo_RX4_37 rfl h_a1 dX4_copyFrom_64 ?_
    refine z_putIb S fo_RX4_37p rfl h_a0 rfl rfl he dX4_copyFrom_67 (fun M5 he => ?_)
    refine z_aload_n S dX4_copyFrom_70 rfl 0 rfl ?_
    refine z_aload_n S dX4_copyFrom_71 rfl 1 rfl ?_
    refine z_getI S fo_RX4_40 rfl h_a1 dX4_copyFrom_72 ?_
    refine z_putIb S fo_RX4_40p rfl h_a0 rfl rfl he dX4_copyFrom_75 (fun M6 he => ?_)
    refine z_aload_n S dX4_copyFrom_78 rfl 0 rfl ?_
    refine z_aload_n S dX4_copyFrom_79 rfl 1 rfl ?_
    refine z_getI S fo_RX4_21 rfl h_a1 dX4_copyFrom_80 ?_
    refine z_putIb S fo_RX4_21p rfl h_a0 rfl rfl he dX4_copyFrom_83 (fun M7 he => ?_)
    refine z_aload_n S dX4_copyFrom_86 rfl 0 rfl ?_
    refine z_aload_n S dX4_copyFrom_87 rfl 1 rfl ?_
    refine z_getI S fo_RX4_43 rfl h_a1 dX4_copyFrom_88 ?_
    refine z_putIb S fo_RX4_43p rfl h_a0 rfl rfl he dX4_copyFrom_91 (fun M8 he => ?_)
    refine z_aload_n S dX4_copyFrom_94 rfl 0 rfl ?_
    refine z_aload_n S dX4_copyFrom_95 rfl 1 rfl ?_
    refine z_getI S fo_RX4_25 rfl h_a1 dX4_copyFrom_96 ?_
    refine z_putIb S fo_RX4_25p rfl h_a0 rfl rfl he dX4_copyFrom_99 (fun M9 he => ?_)
    refine z_aload_n S dX4_copyFrom_102 rfl 0 rfl ?_
    refine z_aload_n S dX4_copyFrom_103 rfl 1 rfl ?_
    refine z_getI S fo_RX4_46 rfl h_a1 dX4_copyFrom_104 ?_
    refine z_putIb S fo_RX4_46p rfl h_a0 rfl rfl he dX4_copyFrom_107 (fun M10 he => ?_)
    exact z_vret S (Option.some.inj he) dX4_copyFrom_110
set_option maxRecDepth 100000 in
set_option maxHeartbeats 4000000 in
theorem K_X9_put {X : Cx} {l : Launch} {M : Mm} {a0 : Nat} {a1 : Int32} {a2 : Int32} {N : Mm} (h_a0 : OK 0 a0 30) (he : f_X9_put M a0 a1 a2 = some N) : KV X 0 l yX9_put (wz yX9_put cX9_put 3 none) rm_X9_put [.ref (X.2.2 a0), .int a1, .int a2] M N := by
  intro sz
  refine K_of (Qc := (fun sz => QV X 0 N sz)) (own := RX9) (lv0 := [(0, .ref (X.2.2 a0)), (1, .int a1), (2, .int a2)]) (by decide +kernel) rfl (by decide) rfl (fun p e s m args below meth c S => ?_) sz
  · unfold f_X9_put at he
    refine z_iload_n S dX9_put_0 rfl 1 rfl ?_
    refine z_if_lt (tgt := 14) S he dX9_put_1 (by decide) (fun he => ?_) (fun he => ?_)
    · exact z_vret S (Option.some.inj he) dX9_put_14
    · refine z_iload_n S dX9_put_4 rfl 1 rfl ?_
      refine z_aload_n S dX9_put_5 rfl 0 rfl ?_
      refine z_alen (v := Int32.ofNat (ln a0)) S h_a0 (cel_i h_a0.2.2) rfl rfl rfl dX9_put_6 ?_
      refine z_icmp_ge (tgt := 14) S he dX9_put_7 (by decide) (fun he => ?_) (fun he => ?_)
      · exact z_vret S (Option.some.inj he) dX9_put_14
      · refine z_aload_n S dX9_put_10 rfl 0 rfl ?_
        refine z_iload_n S dX9_put_11 rfl 1 rfl ?_
        refine z_iload_n S dX9_put_12 rfl 2 rfl ?_
        refine z_iastb S h_a0 rfl he dX9_put_13 (fun M1 he => ?_)
        exact z_vret S (Option.some.inj he) dX9_put_14
set_option maxRecDepth 100000 in
set_option maxHeartbeats 4000000 in
theorem K_X4_setVisitor {X : Cx} {l : Launch} {M : Mm} {a0 : Nat} {a1 : Int32} {a2 : Int32} {a3 : Int32} {N : Mm} (h_a0 : OK 0 a0 4) (he : f_X4_setVisitor M a0 a1 a2 a3 = some N) : KV X 0 l yX4_setVisitor (wz yX4_setVisitor cX4_setVisitor 4 none) rm_X4_setVisitor [.ref (X.2.2 a0), .int a1, .int a2, .int a3] M N := by
  intro sz
  refine K_of (Qc := (fun sz => QV X 0 N sz)) (own := RX4) (lv0 := [(0, .ref (X.2.2 a0)), (1, .int a1), (2, .int a2), (3, .int a3)]) (by decide +kernel) rfl (by decide) rfl (fun p e s m args below meth c S => ?_) sz
  · unfold f_X4_setVisitor at he
    refine z_aload_n S dX4_setVisitor_0 rfl 0 rfl ?_
    refine z_getF (j := (a0 + 2)) S fo_RX4_15 2 rfl rfl h_a0 dX4_setVisitor_1 ?_
    refine z_iload_n S dX4_setVisitor_4 rfl 1 rfl ?_
    refine z_iconst (v := 5) S dX4_setVisitor_5 (by decide) ?_
    refine z_imul S dX4_setVisitor_6 ?_
    refine z_iload_n S dX4_setVisitor_7 rfl 2 rfl ?_
    refine z_iadd S dX4_setVisitor_8 ?_
    refine z_iload_n S dX4_setVisitor_9 rfl 3 rfl ?_
    obtain ⟨M1, h9, he⟩ := bnd he
    refine z_cNV (As := [.ref (X.2.2 (a0 + 2)), .int ((a1 * 5) + a2), .int a3]) S cn_RX4_53 (K_X9_put (okf4_2 h_a0).1 h9) ⟨rfl, rfl⟩ ⟨Nat.le_of_ble_eq_true rfl, Nat.le_of_ble_eq_true rfl⟩ ⟨Nat.le_refl _, Nat.le_refl _⟩ rfl rfl (Nat.le_of_ble_eq_true rfl) dX4_setVisitor_10 ?_
    exact z_vret S (Option.some.inj he) dX4_setVisitor_13
set_option maxRecDepth 100000 in
set_option maxHeartbeats 4000000 in
theorem K_X9_at {X : Cx} {l : Launch} {M : Mm} {a0 : Nat} {a1 : Int32} {r : Int32} (h_a0 : OK 0 a0 30) (he : f_X9_at M a0 a1 = some r) : KI X 0 l yX9_at (wz yX9_at cX9_at 2 (some .int)) rm_X9_at [.ref (X.2.2 a0), .int a1] M r M := by
  intro sz
  refine K_of (Qc := (fun sz => QI X 0 r M sz)) (own := RX9) (lv0 := [(0, .ref (X.2.2 a0)), (1, .int a1)]) (by decide +kernel) rfl (by decide) rfl (fun p e s m args below meth c S => ?_) sz
  · unfold f_X9_at at he
    refine z_iload_n S dX9_at_0 rfl 1 rfl ?_
    refine z_if_lt (tgt := 16) S he dX9_at_1 (by decide) (fun he => ?_) (fun he => ?_)
    · refine z_iconst (v := 0) S dX9_at_16 (by decide) ?_
      exact z_iret S (⟨Option.some.inj he, rfl⟩) dX9_at_17
    · refine z_iload_n S dX9_at_4 rfl 1 rfl ?_
      refine z_aload_n S dX9_at_5 rfl 0 rfl ?_
      refine z_alen (v := Int32.ofNat (ln a0)) S h_a0 (cel_i h_a0.2.2) rfl rfl rfl dX9_at_6 ?_
      refine z_icmp_ge (tgt := 16) S he dX9_at_7 (by decide) (fun he => ?_) (fun he => ?_)
      · refine z_iconst (v := 0) S dX9_at_16 (by decide) ?_
        exact z_iret S (⟨Option.some.inj he, rfl⟩) dX9_at_17
      · refine z_aload_n S dX9_at_10 rfl 0 rfl ?_
        refine z_iload_n S dX9_at_11 rfl 1 rfl ?_
        refine z_iald S h_a0 rfl he dX9_at_12 (fun he => ?_)
        refine z_goto (tgt := 17) S dX9_at_13 (by decide) ?_
        exact z_iret S (⟨Option.some.inj he, rfl⟩) dX9_at_17
set_option maxRecDepth 100000 in
set_option maxHeartbeats 4000000 in
theorem K_X4_ofVisitor {X : Cx} {l : Launch} {M : Mm} {a0 : Nat} {a1 : Int32} {a2 : Int32} {r : Int32} (h_a0 : OK 0 a0 4) (he : f_X4_ofVisitor M a0 a1 a2 = some r) : KI X 0 l yX4_ofVisitor (wz yX4_ofVisitor cX4_ofVisitor 3 (some .int)) rm_X4_ofVisitor [.ref (X.2.2 a0), .int a1, .int a2] M r M := by
  intro sz
  refine K_of (Qc := (fun sz => QI X 0 r M sz)) (own := RX4) (lv0 := [(0, .ref (X.2.2 a0)), (1, .int a1), (2, .int a2)]) (by decide +kernel) rfl (by decide) rfl (fun p e s m args below meth c S => ?_) sz
  · unfold f_X4_ofVisitor at he
    refine z_aload_n S dX4_ofVisitor_0 rfl 0 rfl ?_
    refine z_getF (j := (a0 + 2)) S fo_RX4_15 2 rfl rfl h_a0 dX4_ofVisitor_1 ?_
    refine z_iload_n S dX4_ofVisitor_4 rfl 1 rfl ?_
    refine z_iconst (v := 5) S dX4_ofVisitor_5 (by decide) ?_
    refine z_imul S dX4_ofVisitor_6 ?_
    refine z_iload_n S dX4_ofVisitor_7 rfl 2 rfl ?_
    refine z_iadd S dX4_ofVisitor_8 ?_
    obtain ⟨r1, h9, he⟩ := bnd he
    refine z_cNI (As := [.ref (X.2.2 (a0 + 2)), .int ((a1 * 5) + a2)]) S cn_RX4_49 (K_X9_at (okf4_2 h_a0).1 h9) ⟨rfl, rfl⟩ ⟨Nat.le_of_ble_eq_true rfl, Nat.le_of_ble_eq_true rfl⟩ ⟨Nat.le_refl _, Nat.le_refl _⟩ rfl rfl (Nat.le_of_ble_eq_true rfl) dX4_ofVisitor_9 ?_
    exact z_iret S (⟨Option.some.inj he, rfl⟩) dX4_ofVisitor_12
set_option maxRecDepth 100000 in
set_option maxHeartbeats 4000000 in
theorem K_X4_ofThing {X : Cx} {l : Launch} {M : Mm} {a0 : Nat} {a1 : Int32} {a2 : Int32} {r : Int32} (h_a0 : OK 0 a0 4) (he : f_X4_ofThing M a0 a1 a2 = some r) : KI X 0 l yX4_ofThing (wz yX4_ofThing cX4_ofThing 3 (some .int)) rm_X4_ofThing [.ref (X.2.2 a0), .int a1, .int a2] M r M := by
  intro sz
  refine K_of (Qc := (fun sz => QI X 0 r M sz)) (own := RX4) (lv0 := [(0, .ref (X.2.2 a0)), (1, .int a1), (2, .int a2)]) (by decide +kernel) rfl (by decide) rfl (fun p e s m args below meth c S => ?_) sz
  · unfold f_X4_ofThing at he
    refine z_aload_n S dX4_ofThing_0 rfl 0 rfl ?_
    refine z_getF (j := (a0 + 1)) S fo_RX4_9 1 rfl rfl h_a0 dX4_ofThing_1 ?_
    refine z_iload_n S dX4_ofThing_4 rfl 1 rfl ?_
    refine z_iconst (v := 5) S dX4_ofThing_5 (by decide) ?_
    refine z_imul S dX4_ofThing_6 ?_
    refine z_iload_n S dX4_ofThing_7 rfl 2 rfl ?_
    refine z_iadd S dX4_ofThing_8 ?_
    obtain ⟨r1, h9, he⟩ := bnd he
    refine z_cNI (As := [.ref (X.2.2 (a0 + 1)), .int ((a1 * 5) + a2)]) S cn_RX4_49 (K_X9_at (okf4_1 h_a0).1 h9) ⟨rfl, rfl⟩ ⟨Nat.le_of_ble_eq_true rfl, Nat.le_of_ble_eq_true rfl⟩ ⟨Nat.le_refl _, Nat.le_refl _⟩ rfl rfl (Nat.le_of_ble_eq_true rfl) dX4_ofThing_9 ?_
    exact z_iret S (⟨Option.some.inj he, rfl⟩) dX4_ofThing_12
