set_option maxRecDepth 100000 in
set_option maxHeartbeats 4000000 in
theorem p_X9_show_J37 {X : Cx} {p : Program} {l : Launch} {e : Env} {s : State} {m : MethodId} {args : Array Value} {below : List Frame} {meth : Method} {c : Code} (hl0 : l.stackTraces = false) (T0 : ∀ x ∈ c.exceptionTable.toList, False) (S : SB X 0 p s m args meth c cX9_show 5 (some .boolean) RX9) {M : Mm} {rx : ((Bool × Mm) ⊕ (Nat × Mm))} {v1 : Int32} {v3 : Int32} {t0 : Int32}  (he : f_X9_show_J37 M v1 v3 t0 = some rx) : Z X 0 p l e rm_X9_show s m args below meth c 1 6 (vx_MQ below (QXZ X 0 rx s.heap.size) (XCX X 0 rx s.heap.size) args s 1 6 (AA X 0 s.heap.size)) 5 M 37 [(0, .ref (X.2.2 1)), (1, .int v1), (3, .int v3)] [.int t0] := by
  unfold f_X9_show_J37 at he
  refine z_istore (lv' := [(0, .ref (X.2.2 1)), (1, .int v1), (3, .int v3), (4, .int t0)]) S [1, 2, 3, 0] dX9_show_37 (by decide) rfl ?_
  refine z_aload_n S dX9_show_39 rfl 0 rfl ?_
  refine z_getGb (k2 := 4) S fo_RX9_20 rfl ok_1 (by decide) he dX9_show_40 (fun q4 hq4 he => ?_)
  refine z_iload_n S dX9_show_43 rfl 1 rfl ?_
  refine z_iconst (v := 3) S dX9_show_44 (by decide) ?_
  refine z_iload_n S dX9_show_45 rfl 2 rfl ?_
  obtain ⟨M5, h9, he⟩ := bnd he
  refine z_cVV (As := [.int v1, .int 3, .int v3]) S cv_RX9_215 (K_X4_setThing (okk4 hq4) (Option.some.inj h9)) (okk4 hq4) (by decide) (q := (RX4, TX4, 10)) rfl rfl ⟨rfl, rfl⟩ ⟨Nat.le_of_ble_eq_true rfl, Nat.le_of_ble_eq_true rfl⟩ ⟨Nat.le_of_ble_eq_true rfl, Nat.le_of_ble_eq_true rfl⟩ rfl rfl (Nat.le_of_ble_eq_true rfl) dX9_show_46 ?_
  refine z_iload S dX9_show_49 3 rfl ?_
  rcases z_sw he with ⟨hk9, he⟩ | ⟨hk9, he⟩
  · exact z_xzretv (b := false) S hk9 (Option.some.inj he) (by decide) (by decide) dX9_show_51
  · obtain ⟨hk8, he⟩ := grd he
    exact z_xzretv (b := true) S hk8 (Option.some.inj he) (by decide) (by decide) dX9_show_51
set_option maxRecDepth 100000 in
set_option maxHeartbeats 4000000 in
theorem p_X9_show_J18 {X : Cx} {p : Program} {l : Launch} {e : Env} {s : State} {m : MethodId} {args : Array Value} {below : List Frame} {meth : Method} {c : Code} (hl0 : l.stackTraces = false) (T0 : ∀ x ∈ c.exceptionTable.toList, False) (S : SB X 0 p s m args meth c cX9_show 5 (some .boolean) RX9) {M : Mm} {rx : ((Bool × Mm) ⊕ (Nat × Mm))} {v1 : Int32} {t0 : Int32}  (he : f_X9_show_J18 M v1 t0 = some rx) : Z X 0 p l e rm_X9_show s m args below meth c 1 6 (vx_MQ below (QXZ X 0 rx s.heap.size) (XCX X 0 rx s.heap.size) args s 1 6 (AA X 0 s.heap.size)) 5 M 18 [(0, .ref (X.2.2 1)), (1, .int v1)] [.int t0] := by
  unfold f_X9_show_J18 at he
  refine z_istore_n (lv' := [(0, .ref (X.2.2 1)), (1, .int v1), (3, .int t0)]) S [1, 2, 0] dX9_show_18 rfl (by decide) rfl ?_
  refine z_aload_n S dX9_show_19 rfl 0 rfl ?_
  refine z_getGb (k2 := 4) S fo_RX9_20 rfl ok_1 (by decide) he dX9_show_20 (fun q3 hq3 he => ?_)
  refine z_iload_n S dX9_show_23 rfl 1 rfl ?_
  refine z_iconst (v := 3) S dX9_show_24 (by decide) ?_
  refine z_cVI (As := [.int v1, .int 3]) S cv_RX9_147 (K_X4_ofThing (okk4 hq3) rfl) (okk4 hq3) (by decide) (q := (RX4, TX4, 10)) rfl rfl ⟨rfl, rfl⟩ ⟨Nat.le_of_ble_eq_true rfl, Nat.le_of_ble_eq_true rfl⟩ ⟨Nat.le_of_ble_eq_true rfl, Nat.le_of_ble_eq_true rfl⟩ rfl rfl (Nat.le_of_ble_eq_true rfl) dX9_show_25 ?_
  refine z_iload_n S dX9_show_28 rfl 2 rfl ?_
  refine z_icmp_eq (tgt := 36) S he dX9_show_29 (by decide) (fun he => ?_) (fun he => ?_)
  · refine z_iconst (v := 0) S dX9_show_36 (by decide) ?_
    exact p_X9_show_J37 hl0 T0 S  he
  · refine z_iconst (v := 1) S dX9_show_32 (by decide) ?_
    refine z_goto (tgt := 37) S dX9_show_33 (by decide) ?_
    exact p_X9_show_J37 hl0 T0 S  he
set_option maxRecDepth 100000 in
set_option maxHeartbeats 4000000 in
theorem K_X9_show {X : Cx} {l : Launch} (hl0 : l.stackTraces = false) {M : Mm} {a1 : Int32} {a2 : Int32} {rx : ((Bool × Mm) ⊕ (Nat × Mm))}  (he : f_X9_show M a1 a2 = some rx) : KXZ X 0 l yX9_show (wz yX9_show cX9_show 5 (some .boolean)) rm_X9_show 1 6 [.ref (X.2.2 1), .int a1, .int a2] M rx := by
  intro sz
  refine KX_of (Qc := fun sz => QXZ X 0 rx sz) (XC := fun sz => XCX X 0 rx sz) (own := RX9) (lv0 := [(0, .ref (X.2.2 1)), (1, .int a1), (2, .int a2)]) (by decide +kernel) rfl (Nat.le_of_ble_eq_true rfl) rfl (fun p e s m args below meth c S T0 => ?_) sz
  · unfold f_X9_show at he
    refine z_aload_n S dX9_show_0 rfl 0 rfl ?_
    refine z_iload_n S dX9_show_1 rfl 1 rfl ?_
    obtain ⟨r9, h9, hr1, hr2⟩ := bndS he
    refine z_xVV (As := [.int a1]) S cv_RX9_139 (K_X9_needThing hl0  h9) ok_1 (by decide) (q := (RX9, TX9, 17)) rfl rfl ⟨rfl, rfl⟩ ⟨Nat.le_of_ble_eq_true rfl, Nat.le_of_ble_eq_true rfl⟩ ⟨Nat.le_of_ble_eq_true rfl, Nat.le_of_ble_eq_true rfl⟩ rfl rfl (Nat.le_of_ble_eq_true rfl) dX9_show_2 T0 (by decide) (by decide) (fun q hq => Option.some.inj (hr2 q hq)) (fun e_0 hE => ?_)
    have he := hr1 _ hE
    refine z_aload_n S dX9_show_5 rfl 0 rfl ?_
    obtain ⟨M2, h9, he⟩ := bnd he
    refine z_cVV (As := []) S cv_RX9_209 (K_X9_remember  h9) ok_1 (by decide) (q := (RX9, TX9, 17)) rfl rfl ⟨rfl, rfl⟩ ⟨Nat.le_of_ble_eq_true rfl, Nat.le_of_ble_eq_true rfl⟩ ⟨Nat.le_of_ble_eq_true rfl, Nat.le_of_ble_eq_true rfl⟩ rfl rfl (Nat.le_of_ble_eq_true rfl) dX9_show_6 ?_
    refine z_iload_n S dX9_show_9 rfl 2 rfl ?_
    refine z_if_eq (tgt := 17) S he dX9_show_10 (by decide) (fun he => ?_) (fun he => ?_)
    · refine z_iconst (v := 0) S dX9_show_17 (by decide) ?_
      refine z_lv (ks := [0, 1]) rfl ?_
      exact p_X9_show_J18 hl0 T0 S  he
    · refine z_iconst (v := 1) S dX9_show_13 (by decide) ?_
      refine z_goto (tgt := 18) S dX9_show_14 (by decide) ?_
      refine z_lv (ks := [0, 1]) rfl ?_
      exact p_X9_show_J18 hl0 T0 S  he
set_option maxRecDepth 100000 in
set_option maxHeartbeats 4000000 in
theorem p_X9_smallestOf_J4_25 {X : Cx} {p : Program} {l : Launch} {e : Env} {s : State} {m : MethodId} {args : Array Value} {below : List Frame} {meth : Method} {c : Code} (S : SB X 0 p s m args meth c cX9_smallestOf 5 (some .int) RX9) {M : Mm} {r : Int32} {v0 : Int64} {v2 : Int32} {v3 : Int32} {t0 : Int32} {x : (Int32 × Int32) ⊕ Int32}  (he : f_X9_smallestOf_J4_25 M v0 v2 v3 t0 = some x) (hc : ∀ b, x = .inl b → Z X 0 p l e rm_X9_smallestOf s m args below meth c 0 0 (MQ below (QI X 0 r M s.heap.size) args s 0 0 (AA X 0 s.heap.size)) 5 M 4 [(0, .long v0), (2, .int b.1), (3, .int b.2)] []) (hx : ∀ b, x = .inr b → Z X 0 p l e rm_X9_smallestOf s m args below meth c 0 0 (MQ below (QI X 0 r M s.heap.size) args s 0 0 (AA X 0 s.heap.size)) 5 M 56 [(2, .int b)] []) : Z X 0 p l e rm_X9_smallestOf s m args below meth c 0 0 (MQ below (QI X 0 r M s.heap.size) args s 0 0 (AA X 0 s.heap.size)) 5 M 25 [(0, .long v0), (2, .int v2), (3, .int v3)] [.int t0] := by
  unfold f_X9_smallestOf_J4_25 at he
  refine z_istore (lv' := [(0, .long v0), (2, .int v2), (3, .int v3), (4, .int t0)]) S [1, 2, 3, 0] dX9_smallestOf_25 (by decide) rfl ?_
  refine z_iload S dX9_smallestOf_27 3 rfl ?_
  refine z_if_eq (tgt := 50) S he dX9_smallestOf_29 (by decide) (fun he => ?_) (fun he => ?_)
  · refine z_iinc (v := (v3 + 1)) (lv' := [(0, .long v0), (2, .int v2), (3, .int (v3 + 1)), (4, .int t0)]) S [1, 2, 0, 3] 2 dX9_smallestOf_50 rfl (by rfl) (by decide) rfl ?_
    refine z_goto (tgt := 4) S dX9_smallestOf_53 (by decide) ?_
    refine z_lv (ks := [0, 1, 2]) rfl ?_
    exact hc _ (Option.some.inj he).symm
  · refine z_iload_n S dX9_smallestOf_32 rfl 1 rfl ?_
    refine z_iconst (v := (-1)) S dX9_smallestOf_33 (by decide) ?_
    refine z_icmp_eq (tgt := 48) S he dX9_smallestOf_34 (by decide) (fun he => ?_) (fun he => ?_)
    · refine z_iload_n S dX9_smallestOf_48 rfl 2 rfl ?_
      refine z_istore_n (lv' := [(0, .long v0), (2, .int v3), (3, .int v3)]) S [1, 0, 2] dX9_smallestOf_49 rfl (by decide) rfl ?_
      refine z_iinc (v := (v3 + 1)) (lv' := [(0, .long v0), (2, .int v3), (3, .int (v3 + 1))]) S [1, 2, 0] 2 dX9_smallestOf_50 rfl (by rfl) (by decide) rfl ?_
      refine z_goto (tgt := 4) S dX9_smallestOf_53 (by decide) ?_
      refine z_lv (ks := [0, 1, 2]) rfl ?_
      exact hc _ (Option.some.inj he).symm
    · refine z_iload_n S dX9_smallestOf_37 rfl 2 rfl ?_
      obtain ⟨r1, h9, he⟩ := bnd he
      refine z_cSI (As := [.int v3]) S cs_RX9_320 (K_J6_bitCount_0f7a4  h9) ⟨rfl, rfl⟩ ⟨Nat.le_of_ble_eq_true rfl, Nat.le_of_ble_eq_true rfl⟩ ⟨Nat.le_refl _, Nat.le_refl _⟩ rfl rfl (Nat.le_of_ble_eq_true rfl) dX9_smallestOf_38 ?_
      refine z_iload_n S dX9_smallestOf_41 rfl 1 rfl ?_
      obtain ⟨r2, h9, he⟩ := bnd he
      refine z_cSI (As := [.int v2]) S cs_RX9_320 (K_J6_bitCount_0f7a4  h9) ⟨rfl, rfl⟩ ⟨Nat.le_of_ble_eq_true rfl, Nat.le_of_ble_eq_true rfl⟩ ⟨Nat.le_refl _, Nat.le_refl _⟩ rfl rfl (Nat.le_of_ble_eq_true rfl) dX9_smallestOf_42 ?_
      refine z_icmp_ge (tgt := 50) S he dX9_smallestOf_45 (by decide) (fun he => ?_) (fun he => ?_)
      · refine z_iinc (v := (v3 + 1)) (lv' := [(0, .long v0), (2, .int v2), (3, .int (v3 + 1)), (4, .int t0)]) S [1, 2, 0, 3] 2 dX9_smallestOf_50 rfl (by rfl) (by decide) rfl ?_
        refine z_goto (tgt := 4) S dX9_smallestOf_53 (by decide) ?_
        refine z_lv (ks := [0, 1, 2]) rfl ?_
        exact hc _ (Option.some.inj he).symm
      · refine z_iload_n S dX9_smallestOf_48 rfl 2 rfl ?_
        refine z_istore_n (lv' := [(0, .long v0), (2, .int v3), (3, .int v3)]) S [1, 0, 2] dX9_smallestOf_49 rfl (by decide) rfl ?_
        refine z_iinc (v := (v3 + 1)) (lv' := [(0, .long v0), (2, .int v3), (3, .int (v3 + 1))]) S [1, 2, 0] 2 dX9_smallestOf_50 rfl (by rfl) (by decide) rfl ?_
        refine z_goto (tgt := 4) S dX9_smallestOf_53 (by decide) ?_
        refine z_lv (ks := [0, 1, 2]) rfl ?_
        exact hc _ (Option.some.inj he).symm
set_option maxRecDepth 100000 in
set_option maxHeartbeats 4000000 in
theorem p_X9_smallestOf_L4 {X : Cx} {p : Program} {l : Launch} {e : Env} {s : State} {m : MethodId} {args : Array Value} {below : List Frame} {meth : Method} {c : Code} (S : SB X 0 p s m args meth c cX9_smallestOf 5 (some .int) RX9) {M : Mm} {r : Int32} {v0 : Int64} {v2 : Int32} {v3 : Int32} {x : (Int32 × Int32) ⊕ Int32}  (he : f_X9_smallestOf_L4 M v0 v2 v3 = some x) (hc : ∀ b, x = .inl b → Z X 0 p l e rm_X9_smallestOf s m args below meth c 0 0 (MQ below (QI X 0 r M s.heap.size) args s 0 0 (AA X 0 s.heap.size)) 5 M 4 [(0, .long v0), (2, .int b.1), (3, .int b.2)] []) (hx : ∀ b, x = .inr b → Z X 0 p l e rm_X9_smallestOf s m args below meth c 0 0 (MQ below (QI X 0 r M s.heap.size) args s 0 0 (AA X 0 s.heap.size)) 5 M 56 [(2, .int b)] []) : Z X 0 p l e rm_X9_smallestOf s m args below meth c 0 0 (MQ below (QI X 0 r M s.heap.size) args s 0 0 (AA X 0 s.heap.size)) 5 M 4 [(0, .long v0), (2, .int v2), (3, .int v3)] [] := by
  unfold f_X9_smallestOf_L4 at he
  refine z_iload_n S dX9_smallestOf_4 rfl 2 rfl ?_
  refine z_bipush (v := 64) S dX9_smallestOf_5 (by decide) ?_
  refine z_icmp_ge (tgt := 56) S he dX9_smallestOf_7 (by decide) (fun he => ?_) (fun he => ?_)
  · refine z_lv (ks := [1]) rfl ?_
    exact hx _ (Option.some.inj he).symm
  · refine z_lload_n S dX9_smallestOf_10 rfl 0 rfl ?_
    refine z_iload_n S dX9_smallestOf_11 rfl 2 rfl ?_
    refine z_lushr S dX9_smallestOf_12 ?_
    refine z_lconst (v := 1) S dX9_smallestOf_13 (by decide) ?_
    refine z_land S dX9_smallestOf_14 ?_
    refine z_lconst (v := 1) S dX9_smallestOf_15 (by decide) ?_
    refine z_lcmp S dX9_smallestOf_16 ?_
    refine z_if_ne (tgt := 24) S he dX9_smallestOf_17 (by decide) (fun he => ?_) (fun he => ?_)
    · refine z_iconst (v := 0) S dX9_smallestOf_24 (by decide) ?_
      exact p_X9_smallestOf_J4_25 S  he hc hx
    · refine z_iconst (v := 1) S dX9_smallestOf_20 (by decide) ?_
      refine z_goto (tgt := 25) S dX9_smallestOf_21 (by decide) ?_
      exact p_X9_smallestOf_J4_25 S  he hc hx
set_option maxRecDepth 100000 in
set_option maxHeartbeats 4000000 in
theorem K_X9_smallestOf {X : Cx} {l : Launch} {M : Mm} {a0 : Int64} {r : Int32}  (he : f_X9_smallestOf M a0 = some r) : KI X 0 l yX9_smallestOf (wz yX9_smallestOf cX9_smallestOf 5 (some .int)) rm_X9_smallestOf [.long a0] M r M := by
  intro sz
  refine K_of (Qc := (fun sz => QI X 0 r M sz)) (own := RX9) (lv0 := [(0, .long a0)]) (by decide +kernel) rfl (Nat.le_of_ble_eq_true rfl) rfl (fun p e s m args below meth c S => ?_) sz
  · unfold f_X9_smallestOf at he
    refine z_iconst (v := (-1)) S dX9_smallestOf_0 (by decide) ?_
    refine z_istore_n (lv' := [(0, .long a0), (2, .int (-1))]) S [1, 0] dX9_smallestOf_1 rfl (by decide) rfl ?_
    refine z_iconst (v := 0) S dX9_smallestOf_2 (by decide) ?_
    refine z_istore_n (lv' := [(0, .long a0), (2, .int (-1)), (3, .int 0)]) S [1, 2, 0] dX9_smallestOf_3 rfl (by decide) rfl ?_
    obtain ⟨e_3, hl, he⟩ := bnd he
    have hX : Z X 0 p l e rm_X9_smallestOf s m args below meth c 0 0 (MQ below (QI X 0 r M s.heap.size) args s 0 0 (AA X 0 s.heap.size)) 5 M 56 [(2, .int e_3)] [] := by
      refine z_iload_n S dX9_smallestOf_56 rfl 0 rfl ?_
      exact z_iret S (⟨Option.some.inj he, rfl⟩) dX9_smallestOf_57
    have hZ9 := loopZ (f := (fun a_3 => f_X9_smallestOf_L4 M a0 a_3.1 a_3.2)) (Zh := (fun a_3 => Z X 0 p l e rm_X9_smallestOf s m args below meth c 0 0 (MQ below (QI X 0 r M s.heap.size) args s 0 0 (AA X 0 s.heap.size)) 5 M 4 [(0, .long a0), (2, .int a_3.1), (3, .int a_3.2)] [])) (fun a_3 x hb hc hr => p_X9_smallestOf_L4 S  hb hc (fun b hxe => by rw [hr b hxe]; exact hX)) FU ((-1), 0) hl
    exact hZ9
set_option maxRecDepth 100000 in
set_option maxHeartbeats 4000000 in
theorem p_X9_span_L14 {X : Cx} {p : Program} {l : Launch} {e : Env} {s : State} {m : MethodId} {args : Array Value} {below : List Frame} {meth : Method} {c : Code} (hl0 : l.stackTraces = false) (T0 : ∀ x ∈ c.exceptionTable.toList, False) (S : SB X 0 p s m args meth c cX9_span 7 (some .int) RX9) {M : Mm} {rx : ((Int32 × Mm) ⊕ (Nat × Mm))} {v1 : Int32} {v2 : Int32} {v3 : Int32} {v4 : Int32} {v5 : Int32} {x : (Mm × Int32 × Int32 × Int32) ⊕ (Mm × Int32 × Int32)}  (he : f_X9_span_L14 M v1 v2 v3 v4 v5 = some x) (hc : ∀ b, x = .inl b → Z X 0 p l e rm_X9_span s m args below meth c 1 6 (vx_MQ below (QXI X 0 rx s.heap.size) (XCX X 0 rx s.heap.size) args s 1 6 (AA X 0 s.heap.size)) 7 b.1 14 [(0, .ref (X.2.2 1)), (1, .int v1), (2, .int v2), (3, .int b.2.1), (4, .int b.2.2.1), (5, .int b.2.2.2)] []) (hx : ∀ b, x = .inr b → Z X 0 p l e rm_X9_span s m args below meth c 1 6 (vx_MQ below (QXI X 0 rx s.heap.size) (XCX X 0 rx s.heap.size) args s 1 6 (AA X 0 s.heap.size)) 7 b.1 74 [(2, .int v2), (3, .int b.2.1), (4, .int b.2.2)] []) : Z X 0 p l e rm_X9_span s m args below meth c 1 6 (vx_MQ below (QXI X 0 rx s.heap.size) (XCX X 0 rx s.heap.size) args s 1 6 (AA X 0 s.heap.size)) 7 M 14 [(0, .ref (X.2.2 1)), (1, .int v1), (2, .int v2), (3, .int v3), (4, .int v4), (5, .int v5)] [] := by
  unfold f_X9_span_L14 at he
  refine z_iload S dX9_span_14 5 rfl ?_
  refine z_bipush (v := 6) S dX9_span_16 (by decide) ?_
  refine z_icmp_gt (tgt := 74) S he dX9_span_18 (by decide) (fun he => ?_) (fun he => ?_)
  · refine z_lv (ks := [2, 3, 4]) rfl ?_
    exact hx _ (Option.some.inj he).symm
  · refine z_aload_n S dX9_span_21 rfl 0 rfl ?_
    refine z_getGb (k2 := 4) S fo_RX9_24 rfl ok_1 (by decide) he dX9_span_22 (fun q2 hq2 he => ?_)
    refine z_aload_n S dX9_span_25 rfl 0 rfl ?_
    refine z_getGb (k2 := 4) S fo_RX9_20 rfl ok_1 (by decide) he dX9_span_26 (fun q3 hq3 he => ?_)
    obtain ⟨M4, h9, he⟩ := bnd he
    refine z_cVV (As := [.ref (X.2.2 q3)]) S cv_RX9_93 (K_X4_copyFrom (okk4 hq2) (okk4 hq3) h9) (okk4 hq2) (by decide) (q := (RX4, TX4, 10)) rfl rfl ⟨rfl, rfl⟩ ⟨Nat.le_of_ble_eq_true rfl, Nat.le_of_ble_eq_true rfl⟩ ⟨Nat.le_of_ble_eq_true rfl, Nat.le_of_ble_eq_true rfl⟩ rfl rfl (Nat.le_of_ble_eq_true rfl) dX9_span_29 ?_
    refine z_aload_n S dX9_span_32 rfl 0 rfl ?_
    refine z_getGb (k2 := 4) S fo_RX9_24 rfl ok_1 (by decide) he dX9_span_33 (fun q5 hq5 he => ?_)
    refine z_iload S dX9_span_36 5 rfl ?_
    refine z_putIb S fo_RX9_331p rfl (okk4 hq5) rfl rfl he dX9_span_38 (fun M6 he => ?_)
    refine z_aload_n S dX9_span_41 rfl 0 rfl ?_
    refine z_aload_n S dX9_span_42 rfl 0 rfl ?_
    refine z_getGb (k2 := 4) S fo_RX9_24 rfl ok_1 (by decide) he dX9_span_43 (fun q7 hq7 he => ?_)
    refine z_iload_n S dX9_span_46 rfl 1 rfl ?_
    obtain ⟨⟨r8, M9⟩, h9, he⟩ := bnd he
    dsimp only at he
    refine z_cVI (As := [.ref (X.2.2 q7), .int v1]) S cv_RX9_239 (K_X9_passDays (okk4 hq7) h9) ok_1 (by decide) (q := (RX9, TX9, 17)) rfl rfl ⟨rfl, rfl⟩ ⟨Nat.le_of_ble_eq_true rfl, Nat.le_of_ble_eq_true rfl⟩ ⟨Nat.le_of_ble_eq_true rfl, Nat.le_of_ble_eq_true rfl⟩ rfl rfl (Nat.le_of_ble_eq_true rfl) dX9_span_47 ?_
    refine z_istore (lv' := [(0, .ref (X.2.2 1)), (1, .int v1), (2, .int v2), (3, .int v3), (4, .int v4), (5, .int v5), (6, .int r8)]) S [1, 2, 3, 4, 5, 6, 0] dX9_span_50 (by decide) rfl ?_
    refine z_iload_n S dX9_span_52 rfl 3 rfl ?_
    refine z_iload S dX9_span_53 6 rfl ?_
    refine z_mmin S cm_RX9_334 (Nat.le_of_ble_eq_true rfl) (Nat.le_of_ble_eq_true rfl) ⟨Nat.le_of_ble_eq_true rfl, Nat.le_of_ble_eq_true rfl⟩ dX9_span_55 ?_
    refine z_istore_n (lv' := [(0, .ref (X.2.2 1)), (1, .int v1), (2, .int v2), (3, .int (mn v3 r8)), (4, .int v4), (5, .int v5), (6, .int r8)]) S [1, 2, 3, 0, 4, 5, 6] dX9_span_58 rfl (by decide) rfl ?_
    refine z_iload S dX9_span_59 4 rfl ?_
    refine z_iload S dX9_span_61 6 rfl ?_
    refine z_mmax S cm_RX9_313 (Nat.le_of_ble_eq_true rfl) (Nat.le_of_ble_eq_true rfl) ⟨Nat.le_of_ble_eq_true rfl, Nat.le_of_ble_eq_true rfl⟩ dX9_span_63 ?_
    refine z_istore (lv' := [(0, .ref (X.2.2 1)), (1, .int v1), (2, .int v2), (3, .int (mn v3 r8)), (4, .int (mx v4 r8)), (5, .int v5)]) S [1, 2, 3, 4, 0, 5] dX9_span_66 (by decide) rfl ?_
    refine z_iinc (v := (v5 + 1)) (lv' := [(0, .ref (X.2.2 1)), (1, .int v1), (2, .int v2), (3, .int (mn v3 r8)), (4, .int (mx v4 r8)), (5, .int (v5 + 1))]) S [1, 2, 3, 4, 5, 0] 5 dX9_span_68 rfl (by rfl) (by decide) rfl ?_
    refine z_goto (tgt := 14) S dX9_span_71 (by decide) ?_
    refine z_lv (ks := [0, 1, 2, 3, 4, 5]) rfl ?_
    exact hc _ (Option.some.inj he).symm
set_option maxRecDepth 100000 in
set_option maxHeartbeats 4000000 in
theorem K_X9_span {X : Cx} {l : Launch} (hl0 : l.stackTraces = false) {M : Mm} {a1 : Int32} {a2 : Int32} {rx : ((Int32 × Mm) ⊕ (Nat × Mm))}  (he : f_X9_span M a1 a2 = some rx) : KXI X 0 l yX9_span (wz yX9_span cX9_span 7 (some .int)) rm_X9_span 1 6 [.ref (X.2.2 1), .int a1, .int a2] M rx := by
  intro sz
  refine KX_of (Qc := fun sz => QXI X 0 rx sz) (XC := fun sz => XCX X 0 rx sz) (own := RX9) (lv0 := [(0, .ref (X.2.2 1)), (1, .int a1), (2, .int a2)]) (by decide +kernel) rfl (Nat.le_of_ble_eq_true rfl) rfl (fun p e s m args below meth c S T0 => ?_) sz
  · unfold f_X9_span at he
    refine z_iload_n S dX9_span_0 rfl 1 rfl ?_
    obtain ⟨r9, h9, hr1, hr2⟩ := bndS he
    refine z_xSV (As := [.int a1]) S cs_RX9_326 (K_X9_needDaysAhead hl0  h9) ⟨rfl, rfl⟩ ⟨Nat.le_of_ble_eq_true rfl, Nat.le_of_ble_eq_true rfl⟩ ⟨Nat.le_of_ble_eq_true rfl, Nat.le_of_ble_eq_true rfl⟩ rfl rfl (Nat.le_of_ble_eq_true rfl) dX9_span_1 T0 (by decide) (by decide) (fun q hq => Option.some.inj (hr2 q hq)) (fun e_0 hE => ?_)
    have he := hr1 _ hE
    refine z_sipush (v := 300) S dX9_span_4 (by decide) ?_
    refine z_istore_n (lv' := [(0, .ref (X.2.2 1)), (1, .int a1), (2, .int a2), (3, .int 300)]) S [1, 2, 3, 0] dX9_span_7 rfl (by decide) rfl ?_
    refine z_iconst (v := 0) S dX9_span_8 (by decide) ?_
    refine z_istore (lv' := [(0, .ref (X.2.2 1)), (1, .int a1), (2, .int a2), (3, .int 300), (4, .int 0)]) S [1, 2, 3, 4, 0] dX9_span_9 (by decide) rfl ?_
    refine z_iconst (v := 1) S dX9_span_11 (by decide) ?_
    refine z_istore (lv' := [(0, .ref (X.2.2 1)), (1, .int a1), (2, .int a2), (3, .int 300), (4, .int 0), (5, .int 1)]) S [1, 2, 3, 4, 5, 0] dX9_span_12 (by decide) rfl ?_
    obtain ⟨e_10, hl, he⟩ := bnd he
    have hX : Z X 0 p l e rm_X9_span s m args below meth c 1 6 (vx_MQ below (QXI X 0 rx s.heap.size) (XCX X 0 rx s.heap.size) args s 1 6 (AA X 0 s.heap.size)) 7 e_10.1 74 [(2, .int a2), (3, .int e_10.2.1), (4, .int e_10.2.2)] [] := by
      refine z_iload_n S dX9_span_74 rfl 0 rfl ?_
      refine z_if_eq (tgt := 83) S he dX9_span_75 (by decide) (fun he => ?_) (fun he => ?_)
      · refine z_iload_n S dX9_span_83 rfl 1 rfl ?_
        exact z_xiret S (Option.some.inj he) (by decide) (by decide) dX9_span_84
      · refine z_iload S dX9_span_78 2 rfl ?_
        refine z_goto (tgt := 84) S dX9_span_80 (by decide) ?_
        exact z_xiret S (Option.some.inj he) (by decide) (by decide) dX9_span_84
    have hZ9 := loopZ (f := (fun a_10 => f_X9_span_L14 a_10.1 a1 a2 a_10.2.1 a_10.2.2.1 a_10.2.2.2)) (Zh := (fun a_10 => Z X 0 p l e rm_X9_span s m args below meth c 1 6 (vx_MQ below (QXI X 0 rx s.heap.size) (XCX X 0 rx s.heap.size) args s 1 6 (AA X 0 s.heap.size)) 7 a_10.1 14 [(0, .ref (X.2.2 1)), (1, .int a1), (2, .int a2), (3, .int a_10.2.1), (4, .int a_10.2.2.1), (5, .int a_10.2.2.2)] [])) (fun a_10 x hb hc hr => p_X9_span_L14 hl0 T0 S  hb hc (fun b hxe => by rw [hr b hxe]; exact hX)) FU (e_0, 300, 0, 1) hl
    exact hZ9
set_option maxRecDepth 100000 in
set_option maxHeartbeats 4000000 in
theorem K_X9_steps {X : Cx} {l : Launch} (hl0 : l.stackTraces = false) {M : Mm} {a1 : Int32} {rx : ((Int32 × Mm) ⊕ (Nat × Mm))}  (he : f_X9_steps M a1 = some rx) : KXI X 0 l yX9_steps (wz yX9_steps cX9_steps 2 (some .int)) rm_X9_steps 1 6 [.ref (X.2.2 1), .int a1] M rx := by
  intro sz
  refine KX_of (Qc := fun sz => QXI X 0 rx sz) (XC := fun sz => XCX X 0 rx sz) (own := RX9) (lv0 := [(0, .ref (X.2.2 1)), (1, .int a1)]) (by decide +kernel) rfl (Nat.le_of_ble_eq_true rfl) rfl (fun p e s m args below meth c S T0 => ?_) sz
  · unfold f_X9_steps at he
    refine z_iload_n S dX9_steps_0 rfl 1 rfl ?_
    refine z_iconst (v := (-1)) S dX9_steps_1 (by decide) ?_
    refine z_icmp_ne (tgt := 17) S he dX9_steps_2 (by decide) (fun he => ?_) (fun he => ?_)
    · refine z_iload_n S dX9_steps_17 rfl 1 rfl ?_
      obtain ⟨r9, h9, hr1, hr2⟩ := bndS he
      refine z_xSV (As := [.int a1]) S cs_RX9_206 (K_X9_needCell hl0  h9) ⟨rfl, rfl⟩ ⟨Nat.le_of_ble_eq_true rfl, Nat.le_of_ble_eq_true rfl⟩ ⟨Nat.le_of_ble_eq_true rfl, Nat.le_of_ble_eq_true rfl⟩ rfl rfl (Nat.le_of_ble_eq_true rfl) dX9_steps_18 T0 (by decide) (by decide) (fun q hq => Option.some.inj (hr2 q hq)) (fun e_0 hE => ?_)
      have he := hr1 _ hE
      refine z_aload_n S dX9_steps_21 rfl 0 rfl ?_
      refine z_getGb (k2 := 4) S fo_RX9_20 rfl ok_1 (by decide) he dX9_steps_22 (fun q2 hq2 he => ?_)
      refine z_iload_n S dX9_steps_25 rfl 1 rfl ?_
      refine z_cVI (As := [.int a1]) S cv_RX9_184 (Kt_X4_stepOf (okk4 hq2) rfl) (okk4 hq2) (by decide) (q := (RX4, TX4, 10)) rfl rfl ⟨rfl, rfl⟩ ⟨Nat.le_of_ble_eq_true rfl, Nat.le_of_ble_eq_true rfl⟩ ⟨Nat.le_of_ble_eq_true rfl, Nat.le_of_ble_eq_true rfl⟩ rfl rfl (Nat.le_of_ble_eq_true rfl) dX9_steps_26 ?_
      exact z_xiret S (Option.some.inj he) (by decide) (by decide) dX9_steps_29
    · refine z_aload_n S dX9_steps_5 rfl 0 rfl ?_
      refine z_getGb (k2 := 4) S fo_RX9_20 rfl ok_1 (by decide) he dX9_steps_6 (fun q3 hq3 he => ?_)
      refine z_bipush (v := 19) S dX9_steps_9 (by decide) ?_
      refine z_cVI (As := [.int 19]) S cv_RX9_184 (Kt_X4_stepOf (okk4 hq3) rfl) (okk4 hq3) (by decide) (q := (RX4, TX4, 10)) rfl rfl ⟨rfl, rfl⟩ ⟨Nat.le_of_ble_eq_true rfl, Nat.le_of_ble_eq_true rfl⟩ ⟨Nat.le_of_ble_eq_true rfl, Nat.le_of_ble_eq_true rfl⟩ rfl rfl (Nat.le_of_ble_eq_true rfl) dX9_steps_11 ?_
      refine z_iconst (v := 1) S dX9_steps_14 (by decide) ?_
      refine z_iadd S dX9_steps_15 ?_
      exact z_xiret S (Option.some.inj he) (by decide) (by decide) dX9_steps_16
set_option maxRecDepth 100000 in
set_option maxHeartbeats 4000000 in
theorem p_X9_thing_J15 {X : Cx} {p : Program} {l : Launch} {e : Env} {s : State} {m : MethodId} {args : Array Value} {below : List Frame} {meth : Method} {c : Code} (hl0 : l.stackTraces = false) (T0 : ∀ x ∈ c.exceptionTable.toList, False) (S : SB X 0 p s m args meth c cX9_thing 3 (some .int) RX9) {M : Mm} {rx : ((Int32 × Mm) ⊕ (Nat × Mm))}  (he : f_X9_thing_J15 M  = some rx) : Z X 0 p l e rm_X9_thing s m args below meth c 1 6 (vx_MQ below (QXI X 0 rx s.heap.size) (XCX X 0 rx s.heap.size) args s 2 12 (AA X 0 s.heap.size)) 3 M 15 [] [] := by
  unfold f_X9_thing_J15 at he
  exact z_throwN S hl0 T0 tx_RX9_142_144_146 (k := 4) rfl (Option.some.inj he) dX9_thing_15 dX9_thing_18 dX9_thing_19 dX9_thing_21 dX9_thing_24 (Nat.le_of_ble_eq_true rfl) (Nat.le_of_ble_eq_true rfl) (Nat.le_of_ble_eq_true rfl) (Nat.le_of_ble_eq_true rfl) (by decide) (by decide)
set_option maxRecDepth 100000 in
set_option maxHeartbeats 4000000 in
theorem K_X9_thing {X : Cx} {l : Launch} (hl0 : l.stackTraces = false) {M : Mm} {a1 : Int32} {a2 : Int32} {rx : ((Int32 × Mm) ⊕ (Nat × Mm))}  (he : f_X9_thing M a1 a2 = some rx) : KXI X 0 l yX9_thing (wz yX9_thing cX9_thing 3 (some .int)) rm_X9_thing 2 12 [.ref (X.2.2 1), .int a1, .int a2] M rx := by
  intro sz
  refine KX_of (Qc := fun sz => QXI X 0 rx sz) (XC := fun sz => XCX X 0 rx sz) (own := RX9) (lv0 := [(0, .ref (X.2.2 1)), (1, .int a1), (2, .int a2)]) (by decide +kernel) rfl (Nat.le_of_ble_eq_true rfl) rfl (fun p e s m args below meth c S T0 => ?_) sz
  · unfold f_X9_thing at he
    refine z_aload_n S dX9_thing_0 rfl 0 rfl ?_
    refine z_iload_n S dX9_thing_1 rfl 1 rfl ?_
    obtain ⟨r9, h9, hr1, hr2⟩ := bndS he
    refine z_xVV (As := [.int a1]) S cv_RX9_139 (K_X9_needThing hl0  h9) ok_1 (by decide) (q := (RX9, TX9, 17)) rfl rfl ⟨rfl, rfl⟩ ⟨Nat.le_of_ble_eq_true rfl, Nat.le_of_ble_eq_true rfl⟩ ⟨Nat.le_of_ble_eq_true rfl, Nat.le_of_ble_eq_true rfl⟩ rfl rfl (Nat.le_of_ble_eq_true rfl) dX9_thing_2 T0 (by decide) (by decide) (fun q hq => Option.some.inj (hr2 q hq)) (fun e_0 hE => ?_)
    have he := hr1 _ hE
    refine z_iload_n S dX9_thing_5 rfl 2 rfl ?_
    refine z_if_lt (tgt := 15) S he dX9_thing_6 (by decide) (fun he => ?_) (fun he => ?_)
    · refine z_lv (ks := []) rfl ?_
      exact p_X9_thing_J15 hl0 T0 S  he
    · refine z_iload_n S dX9_thing_9 rfl 2 rfl ?_
      refine z_bipush (v := 7) S dX9_thing_10 (by decide) ?_
      refine z_icmp_le (tgt := 25) S he dX9_thing_12 (by decide) (fun he => ?_) (fun he => ?_)
      · refine z_iload_n S dX9_thing_25 rfl 2 rfl ?_
        refine z_iconst (v := 5) S dX9_thing_26 (by decide) ?_
        refine z_icmp_ge (tgt := 40) S he dX9_thing_27 (by decide) (fun he => ?_) (fun he => ?_)
        · refine z_aload_n S dX9_thing_40 rfl 0 rfl ?_
          refine z_aload_n S dX9_thing_41 rfl 0 rfl ?_
          refine z_getGb (k2 := 4) S fo_RX9_20 rfl ok_1 (by decide) he dX9_thing_42 (fun q2 hq2 he => ?_)
          obtain ⟨⟨r3, M4⟩, h9, he⟩ := bnd he
          dsimp only at he
          refine z_cVI (As := [.ref (X.2.2 q2)]) S cv_RX9_151 (K_X9_tomorrow (okk4 hq2) h9) ok_1 (by decide) (q := (RX9, TX9, 17)) rfl rfl ⟨rfl, rfl⟩ ⟨Nat.le_of_ble_eq_true rfl, Nat.le_of_ble_eq_true rfl⟩ ⟨Nat.le_of_ble_eq_true rfl, Nat.le_of_ble_eq_true rfl⟩ rfl rfl (Nat.le_of_ble_eq_true rfl) dX9_thing_45 ?_
          refine z_pop S rfl dX9_thing_48 ?_
          refine z_iload_n S dX9_thing_49 rfl 2 rfl ?_
          refine z_iconst (v := 5) S dX9_thing_50 (by decide) ?_
          refine z_icmp_ne (tgt := 66) S he dX9_thing_51 (by decide) (fun he => ?_) (fun he => ?_)
          · refine z_iload_n S dX9_thing_66 rfl 2 rfl ?_
            refine z_bipush (v := 6) S dX9_thing_67 (by decide) ?_
            refine z_icmp_ne (tgt := 83) S he dX9_thing_69 (by decide) (fun he => ?_) (fun he => ?_)
            · refine z_aload_n S dX9_thing_83 rfl 0 rfl ?_
              refine z_getF (j := 82) S fo_RX9_50 81 rfl rfl ok_1 dX9_thing_84 ?_
              refine z_iload_n S dX9_thing_87 rfl 1 rfl ?_
              obtain ⟨r5, h9, he⟩ := bnd he
              refine z_cVI (As := [.int a1]) S cv_RX9_166 (K_X6_envied  h9) ok_82 (by decide) (q := (RX6, TX6, 4)) rfl rfl ⟨rfl, rfl⟩ ⟨Nat.le_of_ble_eq_true rfl, Nat.le_of_ble_eq_true rfl⟩ ⟨Nat.le_of_ble_eq_true rfl, Nat.le_of_ble_eq_true rfl⟩ rfl rfl (Nat.le_of_ble_eq_true rfl) dX9_thing_88 ?_
              exact z_xiret S (Option.some.inj he) (by decide) (by decide) dX9_thing_91
            · refine z_aload_n S dX9_thing_72 rfl 0 rfl ?_
              refine z_getF (j := 82) S fo_RX9_50 81 rfl rfl ok_1 dX9_thing_73 ?_
              refine z_iload_n S dX9_thing_76 rfl 1 rfl ?_
              obtain ⟨r6, h9, he⟩ := bnd he
              refine z_cVI (As := [.int a1]) S cv_RX9_162 (K_X6_hadBy  h9) ok_82 (by decide) (q := (RX6, TX6, 4)) rfl rfl ⟨rfl, rfl⟩ ⟨Nat.le_of_ble_eq_true rfl, Nat.le_of_ble_eq_true rfl⟩ ⟨Nat.le_of_ble_eq_true rfl, Nat.le_of_ble_eq_true rfl⟩ rfl rfl (Nat.le_of_ble_eq_true rfl) dX9_thing_77 ?_
              refine z_goto (tgt := 91) S dX9_thing_80 (by decide) ?_
              exact z_xiret S (Option.some.inj he) (by decide) (by decide) dX9_thing_91
          · refine z_aload_n S dX9_thing_54 rfl 0 rfl ?_
            refine z_getF (j := 82) S fo_RX9_50 81 rfl rfl ok_1 dX9_thing_55 ?_
            refine z_getF (j := 84) S fo_RX9_155 2 rfl rfl ok_82 dX9_thing_58 ?_
            refine z_iload_n S dX9_thing_61 rfl 1 rfl ?_
            refine z_cSI (As := [.ref (X.2.2 84), .int a1]) S cs_RX9_158 (Kt_X9_at ok_84 rfl) ⟨rfl, rfl⟩ ⟨Nat.le_of_ble_eq_true rfl, Nat.le_of_ble_eq_true rfl⟩ ⟨Nat.le_of_ble_eq_true rfl, Nat.le_of_ble_eq_true rfl⟩ rfl rfl (Nat.le_of_ble_eq_true rfl) dX9_thing_62 ?_
            exact z_xiret S (Option.some.inj he) (by decide) (by decide) dX9_thing_65
        · refine z_aload_n S dX9_thing_30 rfl 0 rfl ?_
          refine z_getGb (k2 := 4) S fo_RX9_20 rfl ok_1 (by decide) he dX9_thing_31 (fun q7 hq7 he => ?_)
          refine z_iload_n S dX9_thing_34 rfl 1 rfl ?_
          refine z_iload_n S dX9_thing_35 rfl 2 rfl ?_
          refine z_cVI (As := [.int a1, .int a2]) S cv_RX9_147 (K_X4_ofThing (okk4 hq7) rfl) (okk4 hq7) (by decide) (q := (RX4, TX4, 10)) rfl rfl ⟨rfl, rfl⟩ ⟨Nat.le_of_ble_eq_true rfl, Nat.le_of_ble_eq_true rfl⟩ ⟨Nat.le_of_ble_eq_true rfl, Nat.le_of_ble_eq_true rfl⟩ rfl rfl (Nat.le_of_ble_eq_true rfl) dX9_thing_36 ?_
          exact z_xiret S (Option.some.inj he) (by decide) (by decide) dX9_thing_39
      · refine z_lv (ks := []) rfl ?_
        exact p_X9_thing_J15 hl0 T0 S  he
set_option maxRecDepth 100000 in
set_option maxHeartbeats 4000000 in
theorem K_X9_trade {X : Cx} {l : Launch} (hl0 : l.stackTraces = false) {M : Mm} {a1 : Int32} {a2 : Int32} {rx : (Mm ⊕ (Nat × Mm))}  (he : f_X9_trade M a1 a2 = some rx) : KXV X 0 l yX9_trade (wz yX9_trade cX9_trade 3 none) rm_X9_trade 3 18 [.ref (X.2.2 1), .int a1, .int a2] M rx := by
  intro sz
  refine KX_of (Qc := fun sz => QXV X 0 rx sz) (XC := fun sz => XCX X 0 rx sz) (own := RX9) (lv0 := [(0, .ref (X.2.2 1)), (1, .int a1), (2, .int a2)]) (by decide +kernel) rfl (Nat.le_of_ble_eq_true rfl) rfl (fun p e s m args below meth c S T0 => ?_) sz
  · unfold f_X9_trade at he
    refine z_aload_n S dX9_trade_0 rfl 0 rfl ?_
    refine z_iload_n S dX9_trade_1 rfl 1 rfl ?_
    obtain ⟨r9, h9, hr1, hr2⟩ := bndS he
    refine z_xVV (As := [.int a1]) S cv_RX9_169 (K_X9_needVisitor hl0  h9) ok_1 (by decide) (q := (RX9, TX9, 17)) rfl rfl ⟨rfl, rfl⟩ ⟨Nat.le_of_ble_eq_true rfl, Nat.le_of_ble_eq_true rfl⟩ ⟨Nat.le_of_ble_eq_true rfl, Nat.le_of_ble_eq_true rfl⟩ rfl rfl (Nat.le_of_ble_eq_true rfl) dX9_trade_2 T0 (by decide) (by decide) (fun q hq => Option.some.inj (hr2 q hq)) (fun e_0 hE => ?_)
    have he := hr1 _ hE
    refine z_aload_n S dX9_trade_5 rfl 0 rfl ?_
    refine z_iload_n S dX9_trade_6 rfl 2 rfl ?_
    obtain ⟨r9, h9, hr1, hr2⟩ := bndS he
    refine z_xVV (As := [.int a2]) S cv_RX9_169 (K_X9_needVisitor hl0  h9) ok_1 (by decide) (q := (RX9, TX9, 17)) rfl rfl ⟨rfl, rfl⟩ ⟨Nat.le_of_ble_eq_true rfl, Nat.le_of_ble_eq_true rfl⟩ ⟨Nat.le_of_ble_eq_true rfl, Nat.le_of_ble_eq_true rfl⟩ rfl rfl (Nat.le_of_ble_eq_true rfl) dX9_trade_7 T0 (by decide) (by decide) (fun q hq => Option.some.inj (hr2 q hq)) (fun e_1 hE => ?_)
    have he := hr1 _ hE
    refine z_iload_n S dX9_trade_10 rfl 1 rfl ?_
    refine z_iload_n S dX9_trade_11 rfl 2 rfl ?_
    refine z_icmp_ne (tgt := 25) S he dX9_trade_12 (by decide) (fun he => ?_) (fun he => ?_)
    · refine z_aload_n S dX9_trade_25 rfl 0 rfl ?_
      obtain ⟨M3, h9, he⟩ := bnd he
      refine z_cVV (As := []) S cv_RX9_209 (K_X9_remember  h9) ok_1 (by decide) (q := (RX9, TX9, 17)) rfl rfl ⟨rfl, rfl⟩ ⟨Nat.le_of_ble_eq_true rfl, Nat.le_of_ble_eq_true rfl⟩ ⟨Nat.le_of_ble_eq_true rfl, Nat.le_of_ble_eq_true rfl⟩ rfl rfl (Nat.le_of_ble_eq_true rfl) dX9_trade_26 ?_
      refine z_aload_n S dX9_trade_29 rfl 0 rfl ?_
      refine z_getGb (k2 := 4) S fo_RX9_20 rfl ok_1 (by decide) he dX9_trade_30 (fun q4 hq4 he => ?_)
      refine z_iload_n S dX9_trade_33 rfl 1 rfl ?_
      refine z_iload_n S dX9_trade_34 rfl 2 rfl ?_
      obtain ⟨M5, h9, he⟩ := bnd he
      refine z_cVV (As := [.int a1, .int a2]) S cv_RX9_233 (K_X4_swapVisitors (okk4 hq4) h9) (okk4 hq4) (by decide) (q := (RX4, TX4, 10)) rfl rfl ⟨rfl, rfl⟩ ⟨Nat.le_of_ble_eq_true rfl, Nat.le_of_ble_eq_true rfl⟩ ⟨Nat.le_of_ble_eq_true rfl, Nat.le_of_ble_eq_true rfl⟩ rfl rfl (Nat.le_of_ble_eq_true rfl) dX9_trade_35 ?_
      exact z_xvret S (Option.some.inj he) (by decide) (by decide) dX9_trade_38
    · exact z_throw S hl0 T0 tx_RX9_114_231_118 (k := 1) rfl (Option.some.inj he) dX9_trade_15 dX9_trade_18 dX9_trade_19 dX9_trade_21 dX9_trade_24 (Nat.le_of_ble_eq_true rfl) (Nat.le_of_ble_eq_true rfl) (Nat.le_of_ble_eq_true rfl) (Nat.le_of_ble_eq_true rfl) (by decide) (by decide)
set_option maxRecDepth 100000 in
set_option maxHeartbeats 4000000 in
theorem K_X9_trial {X : Cx} {l : Launch} (hl0 : l.stackTraces = false) {M : Mm} {a1 : Int32} {rx : ((Int32 × Mm) ⊕ (Nat × Mm))}  (he : f_X9_trial M a1 = some rx) : KXI X 0 l yX9_trial (wz yX9_trial cX9_trial 2 (some .int)) rm_X9_trial 1 6 [.ref (X.2.2 1), .int a1] M rx := by
  intro sz
  refine KX_of (Qc := fun sz => QXI X 0 rx sz) (XC := fun sz => XCX X 0 rx sz) (own := RX9) (lv0 := [(0, .ref (X.2.2 1)), (1, .int a1)]) (by decide +kernel) rfl (Nat.le_of_ble_eq_true rfl) rfl (fun p e s m args below meth c S T0 => ?_) sz
  · unfold f_X9_trial at he
    refine z_iload_n S dX9_trial_0 rfl 1 rfl ?_
    obtain ⟨r9, h9, hr1, hr2⟩ := bndS he
    refine z_xSV (As := [.int a1]) S cs_RX9_326 (K_X9_needDaysAhead hl0  h9) ⟨rfl, rfl⟩ ⟨Nat.le_of_ble_eq_true rfl, Nat.le_of_ble_eq_true rfl⟩ ⟨Nat.le_of_ble_eq_true rfl, Nat.le_of_ble_eq_true rfl⟩ rfl rfl (Nat.le_of_ble_eq_true rfl) dX9_trial_1 T0 (by decide) (by decide) (fun q hq => Option.some.inj (hr2 q hq)) (fun e_0 hE => ?_)
    have he := hr1 _ hE
    refine z_aload_n S dX9_trial_4 rfl 0 rfl ?_
    refine z_getGb (k2 := 4) S fo_RX9_24 rfl ok_1 (by decide) he dX9_trial_5 (fun q2 hq2 he => ?_)
    refine z_aload_n S dX9_trial_8 rfl 0 rfl ?_
    refine z_getGb (k2 := 4) S fo_RX9_20 rfl ok_1 (by decide) he dX9_trial_9 (fun q3 hq3 he => ?_)
    obtain ⟨M4, h9, he⟩ := bnd he
    refine z_cVV (As := [.ref (X.2.2 q3)]) S cv_RX9_93 (K_X4_copyFrom (okk4 hq2) (okk4 hq3) h9) (okk4 hq2) (by decide) (q := (RX4, TX4, 10)) rfl rfl ⟨rfl, rfl⟩ ⟨Nat.le_of_ble_eq_true rfl, Nat.le_of_ble_eq_true rfl⟩ ⟨Nat.le_of_ble_eq_true rfl, Nat.le_of_ble_eq_true rfl⟩ rfl rfl (Nat.le_of_ble_eq_true rfl) dX9_trial_12 ?_
    refine z_aload_n S dX9_trial_15 rfl 0 rfl ?_
    refine z_aload_n S dX9_trial_16 rfl 0 rfl ?_
    refine z_getGb (k2 := 4) S fo_RX9_24 rfl ok_1 (by decide) he dX9_trial_17 (fun q5 hq5 he => ?_)
    refine z_iload_n S dX9_trial_20 rfl 1 rfl ?_
    obtain ⟨⟨r6, M7⟩, h9, he⟩ := bnd he
    dsimp only at he
    refine z_cVI (As := [.ref (X.2.2 q5), .int a1]) S cv_RX9_239 (K_X9_passDays (okk4 hq5) h9) ok_1 (by decide) (q := (RX9, TX9, 17)) rfl rfl ⟨rfl, rfl⟩ ⟨Nat.le_of_ble_eq_true rfl, Nat.le_of_ble_eq_true rfl⟩ ⟨Nat.le_of_ble_eq_true rfl, Nat.le_of_ble_eq_true rfl⟩ rfl rfl (Nat.le_of_ble_eq_true rfl) dX9_trial_21 ?_
    exact z_xiret S (Option.some.inj he) (by decide) (by decide) dX9_trial_24
set_option maxRecDepth 100000 in
set_option maxHeartbeats 4000000 in
theorem K_X9_undo {X : Cx} {l : Launch} {M : Mm} {r : Bool} {N : Mm}  (he : f_X9_undo M  = some (r, N)) : KI X 0 l yX9_undo (wz yX9_undo cX9_undo 1 (some .boolean)) rm_X9_undo [.ref (X.2.2 1)] M (bI r) N := by
  intro sz
  refine K_of (Qc := (fun sz => QI X 0 (bI r) N sz)) (own := RX9) (lv0 := [(0, .ref (X.2.2 1))]) (by decide +kernel) rfl (Nat.le_of_ble_eq_true rfl) rfl (fun p e s m args below meth c S => ?_) sz
  · unfold f_X9_undo at he
    refine z_aload_n S dX9_undo_0 rfl 0 rfl ?_
    refine z_getI S fo_RX9_129 rfl ok_1 dX9_undo_1 ?_
    refine z_iconst (v := 1) S dX9_undo_4 (by decide) ?_
    refine z_icmp_lt (tgt := 20) S he dX9_undo_5 (by decide) (fun he => ?_) (fun he => ?_)
    · refine z_iconst (v := 0) S dX9_undo_20 (by decide) ?_
      exact z_zret0 S (Prod.mk.inj (Option.some.inj he)) dX9_undo_21
    · refine z_aload_n S dX9_undo_8 rfl 0 rfl ?_
      refine z_getI S fo_RX9_129 rfl ok_1 dX9_undo_9 ?_
      refine z_aload_n S dX9_undo_12 rfl 0 rfl ?_
      refine z_getF (j := 3) S fo_RX9_43 2 rfl rfl ok_1 dX9_undo_13 ?_
      refine z_alen (v := 12) S ok_3 (cel_m ok_3.2.2) rfl rfl rfl dX9_undo_16 ?_
      refine z_icmp_le (tgt := 22) S he dX9_undo_17 (by decide) (fun he => ?_) (fun he => ?_)
      · refine z_aload_n S dX9_undo_22 rfl 0 rfl ?_
        refine z_dup S rfl dX9_undo_23 ?_
        refine z_getI S fo_RX9_129 rfl ok_1 dX9_undo_24 ?_
        refine z_iconst (v := 1) S dX9_undo_27 (by decide) ?_
        refine z_isub S dX9_undo_28 ?_
        refine z_putIb S fo_RX9_129p rfl ok_1 rfl rfl he dX9_undo_29 (fun M1 he => ?_)
        refine z_aload_n S dX9_undo_32 rfl 0 rfl ?_
        refine z_getGb (k2 := 4) S fo_RX9_20 rfl ok_1 (by decide) he dX9_undo_33 (fun q2 hq2 he => ?_)
        refine z_aload_n S dX9_undo_36 rfl 0 rfl ?_
        refine z_getF (j := 3) S fo_RX9_43 2 rfl rfl ok_1 dX9_undo_37 ?_
        refine z_aload_n S dX9_undo_40 rfl 0 rfl ?_
        refine z_getI S fo_RX9_129 rfl ok_1 dX9_undo_41 ?_
        refine z_mald S ok_3 rfl he dX9_undo_44 (fun q3 hq3 he => ?_)
        obtain ⟨M4, h9, he⟩ := bnd he
        refine z_cVV (As := [.ref (X.2.2 q3)]) S cv_RX9_93 (K_X4_copyFrom (okk4 hq2) (okk4 hq3) h9) (okk4 hq2) (by decide) (q := (RX4, TX4, 10)) rfl rfl ⟨rfl, rfl⟩ ⟨Nat.le_of_ble_eq_true rfl, Nat.le_of_ble_eq_true rfl⟩ ⟨Nat.le_refl _, Nat.le_refl _⟩ rfl rfl (Nat.le_of_ble_eq_true rfl) dX9_undo_45 ?_
        refine z_iconst (v := 1) S dX9_undo_48 (by decide) ?_
        exact z_zret1 S (Prod.mk.inj (Option.some.inj he)) dX9_undo_49
      · refine z_iconst (v := 0) S dX9_undo_20 (by decide) ?_
        exact z_zret0 S (Prod.mk.inj (Option.some.inj he)) dX9_undo_21
set_option maxRecDepth 100000 in
set_option maxHeartbeats 4000000 in
theorem p_X9_visitor_J15 {X : Cx} {p : Program} {l : Launch} {e : Env} {s : State} {m : MethodId} {args : Array Value} {below : List Frame} {meth : Method} {c : Code} (hl0 : l.stackTraces = false) (T0 : ∀ x ∈ c.exceptionTable.toList, False) (S : SB X 0 p s m args meth c cX9_visitor 4 (some .int) RX9) {M : Mm} {rx : ((Int32 × Mm) ⊕ (Nat × Mm))}  (he : f_X9_visitor_J15 M  = some rx) : Z X 0 p l e rm_X9_visitor s m args below meth c 1 6 (vx_MQ below (QXI X 0 rx s.heap.size) (XCX X 0 rx s.heap.size) args s 2 12 (AA X 0 s.heap.size)) 4 M 15 [] [] := by
  unfold f_X9_visitor_J15 at he
  exact z_throwN S hl0 T0 tx_RX9_142_172_146 (k := 4) rfl (Option.some.inj he) dX9_visitor_15 dX9_visitor_18 dX9_visitor_19 dX9_visitor_21 dX9_visitor_24 (Nat.le_of_ble_eq_true rfl) (Nat.le_of_ble_eq_true rfl) (Nat.le_of_ble_eq_true rfl) (Nat.le_of_ble_eq_true rfl) (by decide) (by decide)
set_option maxRecDepth 100000 in
set_option maxHeartbeats 4000000 in
theorem K_X9_visitor {X : Cx} {l : Launch} (hl0 : l.stackTraces = false) {M : Mm} {a1 : Int32} {a2 : Int32} {rx : ((Int32 × Mm) ⊕ (Nat × Mm))}  (he : f_X9_visitor M a1 a2 = some rx) : KXI X 0 l yX9_visitor (wz yX9_visitor cX9_visitor 4 (some .int)) rm_X9_visitor 2 12 [.ref (X.2.2 1), .int a1, .int a2] M rx := by
  intro sz
  refine KX_of (Qc := fun sz => QXI X 0 rx sz) (XC := fun sz => XCX X 0 rx sz) (own := RX9) (lv0 := [(0, .ref (X.2.2 1)), (1, .int a1), (2, .int a2)]) (by decide +kernel) rfl (Nat.le_of_ble_eq_true rfl) rfl (fun p e s m args below meth c S T0 => ?_) sz
  · unfold f_X9_visitor at he
    refine z_aload_n S dX9_visitor_0 rfl 0 rfl ?_
    refine z_iload_n S dX9_visitor_1 rfl 1 rfl ?_
    obtain ⟨r9, h9, hr1, hr2⟩ := bndS he
    refine z_xVV (As := [.int a1]) S cv_RX9_169 (K_X9_needVisitor hl0  h9) ok_1 (by decide) (q := (RX9, TX9, 17)) rfl rfl ⟨rfl, rfl⟩ ⟨Nat.le_of_ble_eq_true rfl, Nat.le_of_ble_eq_true rfl⟩ ⟨Nat.le_of_ble_eq_true rfl, Nat.le_of_ble_eq_true rfl⟩ rfl rfl (Nat.le_of_ble_eq_true rfl) dX9_visitor_2 T0 (by decide) (by decide) (fun q hq => Option.some.inj (hr2 q hq)) (fun e_0 hE => ?_)
    have he := hr1 _ hE
    refine z_iload_n S dX9_visitor_5 rfl 2 rfl ?_
    refine z_if_lt (tgt := 15) S he dX9_visitor_6 (by decide) (fun he => ?_) (fun he => ?_)
    · refine z_lv (ks := []) rfl ?_
      exact p_X9_visitor_J15 hl0 T0 S  he
    · refine z_iload_n S dX9_visitor_9 rfl 2 rfl ?_
      refine z_bipush (v := 7) S dX9_visitor_10 (by decide) ?_
      refine z_icmp_le (tgt := 25) S he dX9_visitor_12 (by decide) (fun he => ?_) (fun he => ?_)
      · refine z_iload_n S dX9_visitor_25 rfl 2 rfl ?_
        refine z_iconst (v := 5) S dX9_visitor_26 (by decide) ?_
        refine z_icmp_ge (tgt := 40) S he dX9_visitor_27 (by decide) (fun he => ?_) (fun he => ?_)
        · refine z_iload_n S dX9_visitor_40 rfl 2 rfl ?_
          refine z_iconst (v := 5) S dX9_visitor_41 (by decide) ?_
          refine z_icmp_ne (tgt := 55) S he dX9_visitor_42 (by decide) (fun he => ?_) (fun he => ?_)
          · refine z_aload_n S dX9_visitor_55 rfl 0 rfl ?_
            refine z_aload_n S dX9_visitor_56 rfl 0 rfl ?_
            refine z_getGb (k2 := 4) S fo_RX9_20 rfl ok_1 (by decide) he dX9_visitor_57 (fun q2 hq2 he => ?_)
            obtain ⟨⟨r3, M4⟩, h9, he⟩ := bnd he
            dsimp only at he
            refine z_cVI (As := [.ref (X.2.2 q2)]) S cv_RX9_151 (K_X9_tomorrow (okk4 hq2) h9) ok_1 (by decide) (q := (RX9, TX9, 17)) rfl rfl ⟨rfl, rfl⟩ ⟨Nat.le_of_ble_eq_true rfl, Nat.le_of_ble_eq_true rfl⟩ ⟨Nat.le_of_ble_eq_true rfl, Nat.le_of_ble_eq_true rfl⟩ rfl rfl (Nat.le_of_ble_eq_true rfl) dX9_visitor_60 ?_
            refine z_pop S rfl dX9_visitor_63 ?_
            refine z_aload_n S dX9_visitor_64 rfl 0 rfl ?_
            refine z_getF (j := 82) S fo_RX9_50 81 rfl rfl ok_1 dX9_visitor_65 ?_
            refine z_getF (j := 85) S fo_RX9_181 3 rfl rfl ok_82 dX9_visitor_68 ?_
            refine z_iload_n S dX9_visitor_71 rfl 1 rfl ?_
            refine z_cSI (As := [.ref (X.2.2 85), .int a1]) S cs_RX9_158 (Kt_X9_at ok_85 rfl) ⟨rfl, rfl⟩ ⟨Nat.le_of_ble_eq_true rfl, Nat.le_of_ble_eq_true rfl⟩ ⟨Nat.le_of_ble_eq_true rfl, Nat.le_of_ble_eq_true rfl⟩ rfl rfl (Nat.le_of_ble_eq_true rfl) dX9_visitor_72 ?_
            refine z_istore_n (lv' := [(0, .ref (X.2.2 1)), (2, .int a2), (3, .int (t_X9_at M4 85 a1))]) S [1, 3, 0] dX9_visitor_75 rfl (by decide) rfl ?_
            refine z_iload_n S dX9_visitor_76 rfl 1 rfl ?_
            refine z_bipush (v := 6) S dX9_visitor_77 (by decide) ?_
            refine z_icmp_eq (tgt := 87) S he dX9_visitor_79 (by decide) (fun he => ?_) (fun he => ?_)
            · refine z_iload_n S dX9_visitor_87 rfl 2 rfl ?_
              exact z_xiret S (Option.some.inj he) (by decide) (by decide) dX9_visitor_88
            · refine z_iload_n S dX9_visitor_82 rfl 2 rfl ?_
              refine z_iconst (v := (-1)) S dX9_visitor_83 (by decide) ?_
              refine z_icmp_ne (tgt := 89) S he dX9_visitor_84 (by decide) (fun he => ?_) (fun he => ?_)
              · refine z_aload_n S dX9_visitor_89 rfl 0 rfl ?_
                refine z_getGb (k2 := 4) S fo_RX9_20 rfl ok_1 (by decide) he dX9_visitor_90 (fun q5 hq5 he => ?_)
                refine z_aload_n S dX9_visitor_93 rfl 0 rfl ?_
                refine z_getGb (k2 := 4) S fo_RX9_20 rfl ok_1 (by decide) he dX9_visitor_94 (fun q6 hq6 he => ?_)
                refine z_iload_n S dX9_visitor_97 rfl 2 rfl ?_
                refine z_iconst (v := 0) S dX9_visitor_98 (by decide) ?_
                refine z_cVI (As := [.int (t_X9_at M4 85 a1), .int 0]) S cv_RX9_147 (K_X4_ofThing (okk4 hq6) rfl) (okk4 hq6) (by decide) (q := (RX4, TX4, 10)) rfl rfl ⟨rfl, rfl⟩ ⟨Nat.le_of_ble_eq_true rfl, Nat.le_of_ble_eq_true rfl⟩ ⟨Nat.le_of_ble_eq_true rfl, Nat.le_of_ble_eq_true rfl⟩ rfl rfl (Nat.le_of_ble_eq_true rfl) dX9_visitor_99 ?_
                refine z_cVI (As := [.int (f_X4_ofThing M4 q6 (t_X9_at M4 85 a1) 0)]) S cv_RX9_184 (Kt_X4_stepOf (okk4 hq5) rfl) (okk4 hq5) (by decide) (q := (RX4, TX4, 10)) rfl rfl ⟨rfl, rfl⟩ ⟨Nat.le_of_ble_eq_true rfl, Nat.le_of_ble_eq_true rfl⟩ ⟨Nat.le_of_ble_eq_true rfl, Nat.le_of_ble_eq_true rfl⟩ rfl rfl (Nat.le_of_ble_eq_true rfl) dX9_visitor_102 ?_
                exact z_xiret S (Option.some.inj he) (by decide) (by decide) dX9_visitor_105
              · refine z_iload_n S dX9_visitor_87 rfl 2 rfl ?_
                exact z_xiret S (Option.some.inj he) (by decide) (by decide) dX9_visitor_88
          · refine z_aload_n S dX9_visitor_45 rfl 0 rfl ?_
            refine z_aload_n S dX9_visitor_46 rfl 0 rfl ?_
            refine z_getGb (k2 := 4) S fo_RX9_20 rfl ok_1 (by decide) he dX9_visitor_47 (fun q7 hq7 he => ?_)
            refine z_iload_n S dX9_visitor_50 rfl 1 rfl ?_
            obtain ⟨⟨r8, M9⟩, h9, he⟩ := bnd he
            dsimp only at he
            refine z_cVI (As := [.ref (X.2.2 q7), .int a1]) S cv_RX9_177 (K_X9_ringing (okk4 hq7) h9) ok_1 (by decide) (q := (RX9, TX9, 17)) rfl rfl ⟨rfl, rfl⟩ ⟨Nat.le_of_ble_eq_true rfl, Nat.le_of_ble_eq_true rfl⟩ ⟨Nat.le_of_ble_eq_true rfl, Nat.le_of_ble_eq_true rfl⟩ rfl rfl (Nat.le_of_ble_eq_true rfl) dX9_visitor_51 ?_
            exact z_xiret S (Option.some.inj he) (by decide) (by decide) dX9_visitor_54
        · refine z_aload_n S dX9_visitor_30 rfl 0 rfl ?_
          refine z_getGb (k2 := 4) S fo_RX9_20 rfl ok_1 (by decide) he dX9_visitor_31 (fun q10 hq10 he => ?_)
          refine z_iload_n S dX9_visitor_34 rfl 1 rfl ?_
          refine z_iload_n S dX9_visitor_35 rfl 2 rfl ?_
          refine z_cVI (As := [.int a1, .int a2]) S cv_RX9_174 (K_X4_ofVisitor (okk4 hq10) rfl) (okk4 hq10) (by decide) (q := (RX4, TX4, 10)) rfl rfl ⟨rfl, rfl⟩ ⟨Nat.le_of_ble_eq_true rfl, Nat.le_of_ble_eq_true rfl⟩ ⟨Nat.le_of_ble_eq_true rfl, Nat.le_of_ble_eq_true rfl⟩ rfl rfl (Nat.le_of_ble_eq_true rfl) dX9_visitor_36 ?_
          exact z_xiret S (Option.some.inj he) (by decide) (by decide) dX9_visitor_39
      · refine z_lv (ks := []) rfl ?_
        exact p_X9_visitor_J15 hl0 T0 S  he
set_option maxRecDepth 100000 in
set_option maxHeartbeats 4000000 in
theorem K_X9_wants {X : Cx} {l : Launch} (hl0 : l.stackTraces = false) {M : Mm} {a1 : Int32} {rx : ((Int32 × Mm) ⊕ (Nat × Mm))}  (he : f_X9_wants M a1 = some rx) : KXI X 0 l yX9_wants (wz yX9_wants cX9_wants 5 (some .int)) rm_X9_wants 1 6 [.ref (X.2.2 1), .int a1] M rx := by
  intro sz
  refine KX_of (Qc := fun sz => QXI X 0 rx sz) (XC := fun sz => XCX X 0 rx sz) (own := RX9) (lv0 := [(0, .ref (X.2.2 1)), (1, .int a1)]) (by decide +kernel) rfl (Nat.le_of_ble_eq_true rfl) rfl (fun p e s m args below meth c S T0 => ?_) sz
  · unfold f_X9_wants at he
    refine z_aload_n S dX9_wants_0 rfl 0 rfl ?_
    obtain ⟨⟨r1, M2⟩, h9, he⟩ := bnd he
    dsimp only at he
    refine z_cVI (As := []) S cv_RX9_292 (K_X9_takeTold  h9) ok_1 (by decide) (q := (RX9, TX9, 17)) rfl rfl ⟨rfl, rfl⟩ ⟨Nat.le_of_ble_eq_true rfl, Nat.le_of_ble_eq_true rfl⟩ ⟨Nat.le_of_ble_eq_true rfl, Nat.le_of_ble_eq_true rfl⟩ rfl rfl (Nat.le_of_ble_eq_true rfl) dX9_wants_1 ?_
    refine z_istore_n (lv' := [(0, .ref (X.2.2 1)), (1, .int a1), (2, .int r1)]) S [1, 2, 0] dX9_wants_4 rfl (by decide) rfl ?_
    refine z_iload_n S dX9_wants_5 rfl 2 rfl ?_
    refine z_iconst (v := (-1)) S dX9_wants_6 (by decide) ?_
    refine z_icmp_ne (tgt := 21) S he dX9_wants_7 (by decide) (fun he => ?_) (fun he => ?_)
    · refine z_aload_n S dX9_wants_21 rfl 0 rfl ?_
      refine z_iload_n S dX9_wants_22 rfl 2 rfl ?_
      obtain ⟨r3, h9, he⟩ := bnd he
      refine z_cVL (As := [.int r1]) S cv_RX9_297 (K_X9_fittingSets  h9) ok_1 (by decide) (q := (RX9, TX9, 17)) rfl rfl ⟨rfl, rfl⟩ ⟨Nat.le_of_ble_eq_true rfl, Nat.le_of_ble_eq_true rfl⟩ ⟨Nat.le_of_ble_eq_true rfl, Nat.le_of_ble_eq_true rfl⟩ rfl rfl (Nat.le_of_ble_eq_true rfl) dX9_wants_23 ?_
      refine z_lstore_n (lv' := [(1, .int a1), (3, .long r3)]) S [2, 0] dX9_wants_26 rfl (by decide) rfl ?_
      refine z_iload_n S dX9_wants_27 rfl 0 rfl ?_
      refine z_if_eq (tgt := 38) S he dX9_wants_28 (by decide) (fun he => ?_) (fun he => ?_)
      · refine z_lload_n S dX9_wants_38 rfl 1 rfl ?_
        obtain ⟨r4, h9, he⟩ := bnd he
        refine z_cSI (As := [.long r3]) S cs_RX9_305 (K_J13_bitCount_95d88  h9) ⟨rfl, rfl⟩ ⟨Nat.le_of_ble_eq_true rfl, Nat.le_of_ble_eq_true rfl⟩ ⟨Nat.le_of_ble_eq_true rfl, Nat.le_of_ble_eq_true rfl⟩ rfl rfl (Nat.le_of_ble_eq_true rfl) dX9_wants_39 ?_
        exact z_xiret S (Option.some.inj he) (by decide) (by decide) dX9_wants_42
      · refine z_lload_n S dX9_wants_31 rfl 1 rfl ?_
        obtain ⟨r5, h9, he⟩ := bnd he
        refine z_cSI (As := [.long r3]) S cs_RX9_301 (K_X9_smallestOf  h9) ⟨rfl, rfl⟩ ⟨Nat.le_of_ble_eq_true rfl, Nat.le_of_ble_eq_true rfl⟩ ⟨Nat.le_of_ble_eq_true rfl, Nat.le_of_ble_eq_true rfl⟩ rfl rfl (Nat.le_of_ble_eq_true rfl) dX9_wants_32 ?_
        refine z_goto (tgt := 42) S dX9_wants_35 (by decide) ?_
        exact z_xiret S (Option.some.inj he) (by decide) (by decide) dX9_wants_42
    · exact z_throwW S hl0 T0 tx_RX9_114_295_118 (k := 1) rfl (Option.some.inj he) dX9_wants_10 dX9_wants_13 dX9_wants_14 dX9_wants_17 dX9_wants_20 (Nat.le_of_ble_eq_true rfl) (Nat.le_of_ble_eq_true rfl) (Nat.le_of_ble_eq_true rfl) (Nat.le_of_ble_eq_true rfl) (by decide) (by decide)
