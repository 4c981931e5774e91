set_option maxRecDepth 100000 in
set_option maxHeartbeats 4000000 in
theorem K_X9_feed {X : Cx} {l : Launch} {M : Mm} {a1 : Int32} {a2 : Int32} {a3 : Int32} {a4 : Int32} {a5 : Int32} {r : Int32} {N : Mm}  (he : f_X9_feed M a1 a2 a3 a4 a5 = some (r, N)) : KI X 0 l yX9_feed (wz yX9_feed cX9_feed 6 (some .int)) rm_X9_feed [.ref (X.2.2 1), .int a1, .int a2, .int a3, .int a4, .int a5] M r N := by
  intro sz
  refine K_of (Qc := (fun sz => QI X 0 r N sz)) (own := RX9) (lv0 := [(0, .ref (X.2.2 1)), (1, .int a1), (2, .int a2), (3, .int a3), (4, .int a4), (5, .int a5)]) (by decide +kernel) rfl (Nat.le_of_ble_eq_true rfl) rfl (fun p e s m args below meth c S => ?_) sz
  · unfold f_X9_feed at he
    refine z_aload_n S dX9_feed_0 rfl 0 rfl ?_
    refine z_getI S fo_RX9_82 rfl ok_1 dX9_feed_1 ?_
    refine z_bipush (v := 20) S dX9_feed_4 (by decide) ?_
    refine z_iadd S dX9_feed_6 ?_
    refine z_sipush (v := 400) S dX9_feed_7 (by decide) ?_
    refine z_icmp_le (tgt := 15) S he dX9_feed_10 (by decide) (fun he => ?_) (fun he => ?_)
    · refine z_aload_n S dX9_feed_15 rfl 0 rfl ?_
      refine z_iload_n S dX9_feed_16 rfl 1 rfl ?_
      obtain ⟨M1, h9, he⟩ := bnd he
      refine z_cVV (As := [.int a1]) S cv_RX9_85 (K_X9_append  h9) ok_1 (by decide) (q := (RX9, TX9, 17)) rfl rfl ⟨rfl, rfl⟩ ⟨Nat.le_of_ble_eq_true rfl, Nat.le_of_ble_eq_true rfl⟩ ⟨Nat.le_refl _, Nat.le_refl _⟩ rfl rfl (Nat.le_of_ble_eq_true rfl) dX9_feed_17 ?_
      refine z_aload_n S dX9_feed_20 rfl 0 rfl ?_
      refine z_iload_n S dX9_feed_21 rfl 2 rfl ?_
      obtain ⟨M2, h9, he⟩ := bnd he
      refine z_cVV (As := [.int a2]) S cv_RX9_85 (K_X9_append  h9) ok_1 (by decide) (q := (RX9, TX9, 17)) rfl rfl ⟨rfl, rfl⟩ ⟨Nat.le_of_ble_eq_true rfl, Nat.le_of_ble_eq_true rfl⟩ ⟨Nat.le_refl _, Nat.le_refl _⟩ rfl rfl (Nat.le_of_ble_eq_true rfl) dX9_feed_22 ?_
      refine z_aload_n S dX9_feed_25 rfl 0 rfl ?_
      refine z_iload_n S dX9_feed_26 rfl 3 rfl ?_
      obtain ⟨M3, h9, he⟩ := bnd he
      refine z_cVV (As := [.int a3]) S cv_RX9_85 (K_X9_append  h9) ok_1 (by decide) (q := (RX9, TX9, 17)) rfl rfl ⟨rfl, rfl⟩ ⟨Nat.le_of_ble_eq_true rfl, Nat.le_of_ble_eq_true rfl⟩ ⟨Nat.le_refl _, Nat.le_refl _⟩ rfl rfl (Nat.le_of_ble_eq_true rfl) dX9_feed_27 ?_
      refine z_aload_n S dX9_feed_30 rfl 0 rfl ?_
      refine z_iload S dX9_feed_31 4 rfl ?_
      obtain ⟨M4, h9, he⟩ := bnd he
      refine z_cVV (As := [.int a4]) S cv_RX9_85 (K_X9_append  h9) ok_1 (by decide) (q := (RX9, TX9, 17)) rfl rfl ⟨rfl, rfl⟩ ⟨Nat.le_of_ble_eq_true rfl, Nat.le_of_ble_eq_true rfl⟩ ⟨Nat.le_refl _, Nat.le_refl _⟩ rfl rfl (Nat.le_of_ble_eq_true rfl) dX9_feed_33 ?_
      refine z_aload_n S dX9_feed_36 rfl 0 rfl ?_
      refine z_iload S dX9_feed_37 5 rfl ?_
      obtain ⟨M5, h9, he⟩ := bnd he
      refine z_cVV (As := [.int a5]) S cv_RX9_85 (K_X9_append  h9) ok_1 (by decide) (q := (RX9, TX9, 17)) rfl rfl ⟨rfl, rfl⟩ ⟨Nat.le_of_ble_eq_true rfl, Nat.le_of_ble_eq_true rfl⟩ ⟨Nat.le_refl _, Nat.le_refl _⟩ rfl rfl (Nat.le_of_ble_eq_true rfl) dX9_feed_39 ?_
      refine z_aload_n S dX9_feed_42 rfl 0 rfl ?_
      refine z_getI S fo_RX9_82 rfl ok_1 dX9_feed_43 ?_
      exact z_iret S (Prod.mk.inj (Option.some.inj he)) dX9_feed_46
    · refine z_iconst (v := (-1)) S dX9_feed_13 (by decide) ?_
      exact z_iret S (Prod.mk.inj (Option.some.inj he)) dX9_feed_14
set_option maxRecDepth 100000 in
set_option maxHeartbeats 4000000 in
theorem K_X9_fewest {X : Cx} {l : Launch} {M : Mm} {r : Int32} {N : Mm}  (he : f_X9_fewest M  = some (r, N)) : KI X 0 l yX9_fewest (wz yX9_fewest cX9_fewest 1 (some .int)) rm_X9_fewest [.ref (X.2.2 1)] M r N := by
  intro sz
  refine K_of (Qc := (fun sz => QI X 0 r N sz)) (own := RX9) (lv0 := [(0, .ref (X.2.2 1))]) (by decide +kernel) rfl (Nat.le_of_ble_eq_true rfl) rfl (fun p e s m args below meth c S => ?_) sz
  · unfold f_X9_fewest at he
    refine z_aload_n S dX9_fewest_0 rfl 0 rfl ?_
    obtain ⟨M1, h9, he⟩ := bnd he
    refine z_cVV (As := []) S cv_RX9_252 (K_X9_pairUp  h9) ok_1 (by decide) (q := (RX9, TX9, 17)) rfl rfl ⟨rfl, rfl⟩ ⟨Nat.le_of_ble_eq_true rfl, Nat.le_of_ble_eq_true rfl⟩ ⟨Nat.le_refl _, Nat.le_refl _⟩ rfl rfl (Nat.le_of_ble_eq_true rfl) dX9_fewest_1 ?_
    refine z_aload_n S dX9_fewest_4 rfl 0 rfl ?_
    refine z_getF (j := 87) S fo_RX9_57 86 rfl rfl ok_1 dX9_fewest_5 ?_
    obtain ⟨r2, h9, he⟩ := bnd he
    refine z_cVI (As := []) S cv_RX9_284 (K_X5_fewestForAll  h9) ok_87 (by decide) (q := (RX5, TX5, 5)) rfl rfl ⟨rfl, rfl⟩ ⟨Nat.le_of_ble_eq_true rfl, Nat.le_of_ble_eq_true rfl⟩ ⟨Nat.le_refl _, Nat.le_refl _⟩ rfl rfl (Nat.le_of_ble_eq_true rfl) dX9_fewest_8 ?_
    exact z_iret S (Prod.mk.inj (Option.some.inj he)) dX9_fewest_11
set_option maxRecDepth 100000 in
set_option maxHeartbeats 4000000 in
theorem p_X9_first_L11 {X : Cx} {p : Program} {l : Launch} {e : Env} {s : State} {m : MethodId} {args : Array Value} {below : List Frame} {meth : Method} {c : Code} (S : SB X 0 p s m args meth c cX9_first 3 (some .int) RX9) {M : Mm} {N : Mm} {r : Int32} {v1 : Int32} {x : Int32 ⊕ ((Int32 × Mm) ⊕ Unit)}  (he : f_X9_first_L11 M v1 = some x) (hc : ∀ b, x = .inl b → Z X 0 p l e rm_X9_first s m args below meth c 0 0 (MQ below (QI X 0 r N s.heap.size) args s 0 0 (AA X 0 s.heap.size)) 3 M 11 [(0, .ref (X.2.2 1)), (1, .int b)] []) (hx : ∀ b, x = .inr (.inr b) → Z X 0 p l e rm_X9_first s m args below meth c 0 0 (MQ below (QI X 0 r N s.heap.size) args s 0 0 (AA X 0 s.heap.size)) 3 M 63 [] []) (hr : ∀ v, x = .inr (.inl v) → v = (r, N)) : Z X 0 p l e rm_X9_first s m args below meth c 0 0 (MQ below (QI X 0 r N s.heap.size) args s 0 0 (AA X 0 s.heap.size)) 3 M 11 [(0, .ref (X.2.2 1)), (1, .int v1)] [] := by
  unfold f_X9_first_L11 at he
  refine z_iload_n S dX9_first_11 rfl 1 rfl ?_
  refine z_bipush (v := 20) S dX9_first_12 (by decide) ?_
  refine z_icmp_ge (tgt := 63) S he dX9_first_14 (by decide) (fun he => ?_) (fun he => ?_)
  · refine z_lv (ks := []) rfl ?_
    exact hx _ (Option.some.inj he).symm
  · refine z_aload_n S dX9_first_17 rfl 0 rfl ?_
    refine z_getGb (k2 := 4) S fo_RX9_20 rfl ok_1 (by decide) he dX9_first_18 (fun q4 hq4 he => ?_)
    refine z_iload_n S dX9_first_21 rfl 1 rfl ?_
    obtain ⟨r5, h9, he⟩ := bnd he
    refine z_cVI (As := [.int v1]) S cv_RX9_212 (K_X4_thingAt (okk4 hq4) h9) (okk4 hq4) (by decide) (q := (RX4, TX4, 10)) rfl rfl ⟨rfl, rfl⟩ ⟨Nat.le_of_ble_eq_true rfl, Nat.le_of_ble_eq_true rfl⟩ ⟨Nat.le_refl _, Nat.le_refl _⟩ rfl rfl (Nat.le_of_ble_eq_true rfl) dX9_first_22 ?_
    refine z_istore_n (lv' := [(0, .ref (X.2.2 1)), (1, .int v1), (2, .int r5)]) S [1, 2, 0] dX9_first_25 rfl (by decide) rfl ?_
    refine z_iload_n S dX9_first_26 rfl 2 rfl ?_
    refine z_iconst (v := (-1)) S dX9_first_27 (by decide) ?_
    refine z_icmp_eq (tgt := 57) S he dX9_first_28 (by decide) (fun he => ?_) (fun he => ?_)
    · refine z_iinc (v := (v1 + 1)) (lv' := [(0, .ref (X.2.2 1)), (1, .int (v1 + 1)), (2, .int r5)]) S [1, 0, 2] 1 dX9_first_57 rfl (by rfl) (by decide) rfl ?_
      refine z_goto (tgt := 11) S dX9_first_60 (by decide) ?_
      refine z_lv (ks := [0, 1]) rfl ?_
      exact hc _ (Option.some.inj he).symm
    · refine z_aload_n S dX9_first_31 rfl 0 rfl ?_
      refine z_getGb (k2 := 4) S fo_RX9_20 rfl ok_1 (by decide) he dX9_first_32 (fun q6 hq6 he => ?_)
      refine z_iload_n S dX9_first_35 rfl 2 rfl ?_
      refine z_iconst (v := 3) S dX9_first_36 (by decide) ?_
      refine z_cVI (As := [.int r5, .int 3]) S cv_RX9_147 (K_X4_ofThing (okk4 hq6) rfl) (okk4 hq6) (by decide) (q := (RX4, TX4, 10)) rfl rfl ⟨rfl, rfl⟩ ⟨Nat.le_of_ble_eq_true rfl, Nat.le_of_ble_eq_true rfl⟩ ⟨Nat.le_refl _, Nat.le_refl _⟩ rfl rfl (Nat.le_of_ble_eq_true rfl) dX9_first_37 ?_
      refine z_iconst (v := 1) S dX9_first_40 (by decide) ?_
      refine z_icmp_ne (tgt := 57) S he dX9_first_41 (by decide) (fun he => ?_) (fun he => ?_)
      · refine z_iinc (v := (v1 + 1)) (lv' := [(0, .ref (X.2.2 1)), (1, .int (v1 + 1)), (2, .int r5)]) S [1, 0, 2] 1 dX9_first_57 rfl (by rfl) (by decide) rfl ?_
        refine z_goto (tgt := 11) S dX9_first_60 (by decide) ?_
        refine z_lv (ks := [0, 1]) rfl ?_
        exact hc _ (Option.some.inj he).symm
      · refine z_aload_n S dX9_first_44 rfl 0 rfl ?_
        refine z_getF (j := 82) S fo_RX9_50 81 rfl rfl ok_1 dX9_first_45 ?_
        refine z_iload_n S dX9_first_48 rfl 2 rfl ?_
        obtain ⟨r7, h9, he⟩ := bnd he
        refine z_cVI (As := [.int r5]) S cv_RX9_162 (K_X6_hadBy  h9) ok_82 (by decide) (q := (RX6, TX6, 4)) rfl rfl ⟨rfl, rfl⟩ ⟨Nat.le_of_ble_eq_true rfl, Nat.le_of_ble_eq_true rfl⟩ ⟨Nat.le_refl _, Nat.le_refl _⟩ rfl rfl (Nat.le_of_ble_eq_true rfl) dX9_first_49 ?_
        refine z_if_ne (tgt := 57) S he dX9_first_52 (by decide) (fun he => ?_) (fun he => ?_)
        · refine z_iinc (v := (v1 + 1)) (lv' := [(0, .ref (X.2.2 1)), (1, .int (v1 + 1)), (2, .int r5)]) S [1, 0, 2] 1 dX9_first_57 rfl (by rfl) (by decide) rfl ?_
          refine z_goto (tgt := 11) S dX9_first_60 (by decide) ?_
          refine z_lv (ks := [0, 1]) rfl ?_
          exact hc _ (Option.some.inj he).symm
        · refine z_iload_n S dX9_first_55 rfl 2 rfl ?_
          exact z_iret S (Prod.mk.inj (hr _ (Option.some.inj he).symm)) dX9_first_56
set_option maxRecDepth 100000 in
set_option maxHeartbeats 4000000 in
theorem K_X9_first {X : Cx} {l : Launch} {M : Mm} {r : Int32} {N : Mm}  (he : f_X9_first M  = some (r, N)) : KI X 0 l yX9_first (wz yX9_first cX9_first 3 (some .int)) rm_X9_first [.ref (X.2.2 1)] M r N := by
  intro sz
  refine K_of (Qc := (fun sz => QI X 0 r N sz)) (own := RX9) (lv0 := [(0, .ref (X.2.2 1))]) (by decide +kernel) rfl (Nat.le_of_ble_eq_true rfl) rfl (fun p e s m args below meth c S => ?_) sz
  · unfold f_X9_first at he
    refine z_aload_n S dX9_first_0 rfl 0 rfl ?_
    refine z_aload_n S dX9_first_1 rfl 0 rfl ?_
    refine z_getGb (k2 := 4) S fo_RX9_20 rfl ok_1 (by decide) he dX9_first_2 (fun q1 hq1 he => ?_)
    obtain ⟨⟨r2, M3⟩, h9, he⟩ := bnd he
    dsimp only at he
    refine z_cVI (As := [.ref (X.2.2 q1)]) S cv_RX9_151 (K_X9_tomorrow (okk4 hq1) h9) ok_1 (by decide) (q := (RX9, TX9, 17)) rfl rfl ⟨rfl, rfl⟩ ⟨Nat.le_of_ble_eq_true rfl, Nat.le_of_ble_eq_true rfl⟩ ⟨Nat.le_refl _, Nat.le_refl _⟩ rfl rfl (Nat.le_of_ble_eq_true rfl) dX9_first_5 ?_
    refine z_pop S rfl dX9_first_8 ?_
    refine z_iconst (v := 0) S dX9_first_9 (by decide) ?_
    refine z_istore_n (lv' := [(0, .ref (X.2.2 1)), (1, .int 0)]) S [1, 0] dX9_first_10 rfl (by decide) rfl ?_
    obtain ⟨r9, hl, hr1, hr2⟩ := bndS he
    have hX : ∀ e_8, r9 = .inr e_8 → Z X 0 p l e rm_X9_first s m args below meth c 0 0 (MQ below (QI X 0 r N s.heap.size) args s 0 0 (AA X 0 s.heap.size)) 3 M3 63 [] [] := by
      intro e_8 hre
      have he := hr2 e_8 hre
      refine z_iconst (v := (-1)) S dX9_first_63 (by decide) ?_
      exact z_iret S (Prod.mk.inj (Option.some.inj he)) dX9_first_64
    have hZ9 := loopZ (f := (fun a_8 => f_X9_first_L11 M3 a_8)) (Zh := (fun a_8 => Z X 0 p l e rm_X9_first s m args below meth c 0 0 (MQ below (QI X 0 r N s.heap.size) args s 0 0 (AA X 0 s.heap.size)) 3 M3 11 [(0, .ref (X.2.2 1)), (1, .int a_8)] [])) (fun a_8 x hb hc hr9 => p_X9_first_L11 S  hb hc (fun b hxe => hX b (hr9 _ hxe).symm) (fun v hxv => Option.some.inj (hr1 v (hr9 _ hxv).symm))) FU 0 hl
    exact hZ9
set_option maxRecDepth 100000 in
set_option maxHeartbeats 4000000 in
theorem p_X9_setsWithin_L4 {X : Cx} {p : Program} {l : Launch} {e : Env} {s : State} {m : MethodId} {args : Array Value} {below : List Frame} {meth : Method} {c : Code} (S : SB X 0 p s m args meth c cX9_setsWithin 4 (some .long) RX9) {M : Mm} {r : Int64} {v0 : Int32} {v1 : Int64} {v3 : Int32} {x : (Int64 × Int32) ⊕ Int64}  (he : f_X9_setsWithin_L4 M v0 v1 v3 = some x) (hc : ∀ b, x = .inl b → Z X 0 p l e rm_X9_setsWithin s m args below meth c 0 0 (MQ below (QL X 0 r M s.heap.size) args s 0 0 (AA X 0 s.heap.size)) 4 M 4 [(0, .int v0), (1, .long b.1), (3, .int b.2)] []) (hx : ∀ b, x = .inr b → Z X 0 p l e rm_X9_setsWithin s m args below meth c 0 0 (MQ below (QL X 0 r M s.heap.size) args s 0 0 (AA X 0 s.heap.size)) 4 M 30 [(1, .long b)] []) : Z X 0 p l e rm_X9_setsWithin s m args below meth c 0 0 (MQ below (QL X 0 r M s.heap.size) args s 0 0 (AA X 0 s.heap.size)) 4 M 4 [(0, .int v0), (1, .long v1), (3, .int v3)] [] := by
  unfold f_X9_setsWithin_L4 at he
  refine z_iload_n S dX9_setsWithin_4 rfl 2 rfl ?_
  refine z_bipush (v := 64) S dX9_setsWithin_5 (by decide) ?_
  refine z_icmp_ge (tgt := 30) S he dX9_setsWithin_7 (by decide) (fun he => ?_) (fun he => ?_)
  · refine z_lv (ks := [1]) rfl ?_
    exact hx _ (Option.some.inj he).symm
  · refine z_iload_n S dX9_setsWithin_10 rfl 2 rfl ?_
    refine z_iload_n S dX9_setsWithin_11 rfl 0 rfl ?_
    refine z_iconst (v := (-1)) S dX9_setsWithin_12 (by decide) ?_
    refine z_ixor S dX9_setsWithin_13 ?_
    refine z_iand S dX9_setsWithin_14 ?_
    refine z_if_ne (tgt := 24) S he dX9_setsWithin_15 (by decide) (fun he => ?_) (fun he => ?_)
    · refine z_iinc (v := (v3 + 1)) (lv' := [(0, .int v0), (1, .long v1), (3, .int (v3 + 1))]) S [1, 2, 0] 2 dX9_setsWithin_24 rfl (by rfl) (by decide) rfl ?_
      refine z_goto (tgt := 4) S dX9_setsWithin_27 (by decide) ?_
      refine z_lv (ks := [0, 1, 2]) rfl ?_
      exact hc _ (Option.some.inj he).symm
    · refine z_lload_n S dX9_setsWithin_18 rfl 1 rfl ?_
      refine z_lconst (v := 1) S dX9_setsWithin_19 (by decide) ?_
      refine z_iload_n S dX9_setsWithin_20 rfl 2 rfl ?_
      refine z_lshl S dX9_setsWithin_21 ?_
      refine z_lor S dX9_setsWithin_22 ?_
      refine z_lstore_n (lv' := [(0, .int v0), (1, .long (v1 ||| (lsh 1 v3))), (3, .int v3)]) S [1, 0, 2] dX9_setsWithin_23 rfl (by decide) rfl ?_
      refine z_iinc (v := (v3 + 1)) (lv' := [(0, .int v0), (1, .long (v1 ||| (lsh 1 v3))), (3, .int (v3 + 1))]) S [1, 2, 0] 2 dX9_setsWithin_24 rfl (by rfl) (by decide) rfl ?_
      refine z_goto (tgt := 4) S dX9_setsWithin_27 (by decide) ?_
      refine z_lv (ks := [0, 1, 2]) rfl ?_
      exact hc _ (Option.some.inj he).symm
set_option maxRecDepth 100000 in
set_option maxHeartbeats 4000000 in
theorem K_X9_setsWithin {X : Cx} {l : Launch} {M : Mm} {a0 : Int32} {r : Int64}  (he : f_X9_setsWithin M a0 = some r) : KL X 0 l yX9_setsWithin (wz yX9_setsWithin cX9_setsWithin 4 (some .long)) rm_X9_setsWithin [.int a0] M r M := by
  intro sz
  refine K_of (Qc := (fun sz => QL X 0 r M sz)) (own := RX9) (lv0 := [(0, .int a0)]) (by decide +kernel) rfl (Nat.le_of_ble_eq_true rfl) rfl (fun p e s m args below meth c S => ?_) sz
  · unfold f_X9_setsWithin at he
    refine z_lconst (v := 0) S dX9_setsWithin_0 (by decide) ?_
    refine z_lstore_n (lv' := [(0, .int a0), (1, .long 0)]) S [1, 0] dX9_setsWithin_1 rfl (by decide) rfl ?_
    refine z_iconst (v := 0) S dX9_setsWithin_2 (by decide) ?_
    refine z_istore_n (lv' := [(0, .int a0), (1, .long 0), (3, .int 0)]) S [1, 2, 0] dX9_setsWithin_3 rfl (by decide) rfl ?_
    obtain ⟨e_1, hl, he⟩ := bnd he
    have hX : Z X 0 p l e rm_X9_setsWithin s m args below meth c 0 0 (MQ below (QL X 0 r M s.heap.size) args s 0 0 (AA X 0 s.heap.size)) 4 M 30 [(1, .long e_1)] [] := by
      refine z_lload_n S dX9_setsWithin_30 rfl 0 rfl ?_
      exact z_lret S (⟨Option.some.inj he, rfl⟩) dX9_setsWithin_31
    have hZ9 := loopZ (f := (fun a_1 => f_X9_setsWithin_L4 M a0 a_1.1 a_1.2)) (Zh := (fun a_1 => Z X 0 p l e rm_X9_setsWithin s m args below meth c 0 0 (MQ below (QL X 0 r M s.heap.size) args s 0 0 (AA X 0 s.heap.size)) 4 M 4 [(0, .int a0), (1, .long a_1.1), (3, .int a_1.2)] [])) (fun a_1 x hb hc hr => p_X9_setsWithin_L4 S  hb hc (fun b hxe => by rw [hr b hxe]; exact hX)) FU (0, 0) hl
    exact hZ9
set_option maxRecDepth 100000 in
set_option maxHeartbeats 4000000 in
theorem p_X9_fittingSets_L7 {X : Cx} {p : Program} {l : Launch} {e : Env} {s : State} {m : MethodId} {args : Array Value} {below : List Frame} {meth : Method} {c : Code} (S : SB X 0 p s m args meth c cX9_fittingSets 7 (some .long) RX9) {M : Mm} {r : Int64} {v1 : Int32} {v2 : Int64} {v4 : Int32} {x : (Int64 × Int32) ⊕ Int64}  (he : f_X9_fittingSets_L7 M v1 v2 v4 = some x) (hc : ∀ b, x = .inl b → Z X 0 p l e rm_X9_fittingSets s m args below meth c 0 0 (MQ below (QL X 0 r M s.heap.size) args s 0 0 (AA X 0 s.heap.size)) 7 M 7 [(0, .ref (X.2.2 1)), (1, .int v1), (2, .long b.1), (4, .int b.2)] []) (hx : ∀ b, x = .inr b → Z X 0 p l e rm_X9_fittingSets s m args below meth c 0 0 (MQ below (QL X 0 r M s.heap.size) args s 0 0 (AA X 0 s.heap.size)) 7 M 70 [(2, .long b)] []) : Z X 0 p l e rm_X9_fittingSets s m args below meth c 0 0 (MQ below (QL X 0 r M s.heap.size) args s 0 0 (AA X 0 s.heap.size)) 7 M 7 [(0, .ref (X.2.2 1)), (1, .int v1), (2, .long v2), (4, .int v4)] [] := by
  unfold f_X9_fittingSets_L7 at he
  refine z_iload S dX9_fittingSets_7 3 rfl ?_
  refine z_iload_n S dX9_fittingSets_9 rfl 1 rfl ?_
  refine z_icmp_ge (tgt := 70) S he dX9_fittingSets_10 (by decide) (fun he => ?_) (fun he => ?_)
  · refine z_lv (ks := [2]) rfl ?_
    exact hx _ (Option.some.inj he).symm
  · refine z_aload_n S dX9_fittingSets_13 rfl 0 rfl ?_
    refine z_getGb (k2 := 4) S fo_RX9_20 rfl ok_1 (by decide) he dX9_fittingSets_14 (fun q1 hq1 he => ?_)
    refine z_aload_n S dX9_fittingSets_17 rfl 0 rfl ?_
    refine z_getF (j := 2) S fo_RX9_9 1 rfl rfl ok_1 dX9_fittingSets_18 ?_
    refine z_iload S dX9_fittingSets_21 3 rfl ?_
    refine z_cSI (As := [.ref (X.2.2 2), .int v4]) S cs_RX9_158 (Kt_X9_at ok_2 rfl) ⟨rfl, rfl⟩ ⟨Nat.le_of_ble_eq_true rfl, Nat.le_of_ble_eq_true rfl⟩ ⟨Nat.le_refl _, Nat.le_refl _⟩ rfl rfl (Nat.le_of_ble_eq_true rfl) dX9_fittingSets_23 ?_
    refine z_iconst (v := 4) S dX9_fittingSets_26 (by decide) ?_
    refine z_cVI (As := [.int (t_X9_at M 2 v4), .int 4]) S cv_RX9_174 (K_X4_ofVisitor (okk4 hq1) rfl) (okk4 hq1) (by decide) (q := (RX4, TX4, 10)) rfl rfl ⟨rfl, rfl⟩ ⟨Nat.le_of_ble_eq_true rfl, Nat.le_of_ble_eq_true rfl⟩ ⟨Nat.le_refl _, Nat.le_refl _⟩ rfl rfl (Nat.le_of_ble_eq_true rfl) dX9_fittingSets_27 ?_
    obtain ⟨r2, h9, he⟩ := bnd he
    refine z_cSL (As := [.int (f_X4_ofVisitor M q1 (t_X9_at M 2 v4) 4)]) S cs_RX9_310 (K_X9_setsWithin  h9) ⟨rfl, rfl⟩ ⟨Nat.le_of_ble_eq_true rfl, Nat.le_of_ble_eq_true rfl⟩ ⟨Nat.le_refl _, Nat.le_refl _⟩ rfl rfl (Nat.le_of_ble_eq_true rfl) dX9_fittingSets_30 ?_
    refine z_lstore (lv' := [(0, .ref (X.2.2 1)), (1, .int v1), (2, .long v2), (4, .int v4), (5, .long r2)]) S [1, 2, 3, 4, 0] dX9_fittingSets_33 (by decide) rfl ?_
    refine z_lload_n S dX9_fittingSets_35 rfl 2 rfl ?_
    refine z_aload_n S dX9_fittingSets_36 rfl 0 rfl ?_
    refine z_getF (j := 2) S fo_RX9_9 1 rfl rfl ok_1 dX9_fittingSets_37 ?_
    refine z_iload S dX9_fittingSets_40 3 rfl ?_
    refine z_iconst (v := 1) S dX9_fittingSets_42 (by decide) ?_
    refine z_iadd S dX9_fittingSets_43 ?_
    refine z_cSI (As := [.ref (X.2.2 2), .int (v4 + 1)]) S cs_RX9_158 (Kt_X9_at ok_2 rfl) ⟨rfl, rfl⟩ ⟨Nat.le_of_ble_eq_true rfl, Nat.le_of_ble_eq_true rfl⟩ ⟨Nat.le_refl _, Nat.le_refl _⟩ rfl rfl (Nat.le_of_ble_eq_true rfl) dX9_fittingSets_44 ?_
    refine z_iconst (v := 1) S dX9_fittingSets_47 (by decide) ?_
    refine z_icmp_ne (tgt := 56) S he dX9_fittingSets_48 (by decide) (fun he => ?_) (fun he => ?_)
    · refine z_lload S dX9_fittingSets_56 4 rfl ?_
      refine z_ldc2 (v := (-1)) S kc_RX9_318 dX9_fittingSets_58 ?_
      refine z_lxor S dX9_fittingSets_61 ?_
      refine z_land S dX9_fittingSets_62 ?_
      refine z_lstore_n (lv' := [(0, .ref (X.2.2 1)), (1, .int v1), (2, .long (v2 &&& (r2 ^^^ (-1)))), (4, .int v4)]) S [1, 2, 0, 3] dX9_fittingSets_63 rfl (by decide) rfl ?_
      refine z_iinc (v := (v4 + 2)) (lv' := [(0, .ref (X.2.2 1)), (1, .int v1), (2, .long (v2 &&& (r2 ^^^ (-1)))), (4, .int (v4 + 2))]) S [1, 2, 3, 0] 3 dX9_fittingSets_64 rfl (by rfl) (by decide) rfl ?_
      refine z_goto (tgt := 7) S dX9_fittingSets_67 (by decide) ?_
      refine z_lv (ks := [0, 1, 2, 3]) rfl ?_
      exact hc _ (Option.some.inj he).symm
    · refine z_lload S dX9_fittingSets_51 4 rfl ?_
      refine z_goto (tgt := 62) S dX9_fittingSets_53 (by decide) ?_
      refine z_land S dX9_fittingSets_62 ?_
      refine z_lstore_n (lv' := [(0, .ref (X.2.2 1)), (1, .int v1), (2, .long (v2 &&& r2)), (4, .int v4)]) S [1, 2, 0, 3] dX9_fittingSets_63 rfl (by decide) rfl ?_
      refine z_iinc (v := (v4 + 2)) (lv' := [(0, .ref (X.2.2 1)), (1, .int v1), (2, .long (v2 &&& r2)), (4, .int (v4 + 2))]) S [1, 2, 3, 0] 3 dX9_fittingSets_64 rfl (by rfl) (by decide) rfl ?_
      refine z_goto (tgt := 7) S dX9_fittingSets_67 (by decide) ?_
      refine z_lv (ks := [0, 1, 2, 3]) rfl ?_
      exact hc _ (Option.some.inj he).symm
set_option maxRecDepth 100000 in
set_option maxHeartbeats 4000000 in
theorem K_X9_fittingSets {X : Cx} {l : Launch} {M : Mm} {a1 : Int32} {r : Int64}  (he : f_X9_fittingSets M a1 = some r) : KL X 0 l yX9_fittingSets (wz yX9_fittingSets cX9_fittingSets 7 (some .long)) rm_X9_fittingSets [.ref (X.2.2 1), .int a1] M r M := by
  intro sz
  refine K_of (Qc := (fun sz => QL X 0 r M sz)) (own := RX9) (lv0 := [(0, .ref (X.2.2 1)), (1, .int a1)]) (by decide +kernel) rfl (Nat.le_of_ble_eq_true rfl) rfl (fun p e s m args below meth c S => ?_) sz
  · unfold f_X9_fittingSets at he
    refine z_ldc2 (v := (-1)) S kc_RX9_318 dX9_fittingSets_0 ?_
    refine z_lstore_n (lv' := [(0, .ref (X.2.2 1)), (1, .int a1), (2, .long (-1))]) S [1, 2, 0] dX9_fittingSets_3 rfl (by decide) rfl ?_
    refine z_iconst (v := 0) S dX9_fittingSets_4 (by decide) ?_
    refine z_istore (lv' := [(0, .ref (X.2.2 1)), (1, .int a1), (2, .long (-1)), (4, .int 0)]) S [1, 2, 3, 0] dX9_fittingSets_5 (by decide) rfl ?_
    obtain ⟨e_3, hl, he⟩ := bnd he
    have hX : Z X 0 p l e rm_X9_fittingSets s m args below meth c 0 0 (MQ below (QL X 0 r M s.heap.size) args s 0 0 (AA X 0 s.heap.size)) 7 M 70 [(2, .long e_3)] [] := by
      refine z_lload_n S dX9_fittingSets_70 rfl 0 rfl ?_
      exact z_lret S (⟨Option.some.inj he, rfl⟩) dX9_fittingSets_71
    have hZ9 := loopZ (f := (fun a_3 => f_X9_fittingSets_L7 M a1 a_3.1 a_3.2)) (Zh := (fun a_3 => Z X 0 p l e rm_X9_fittingSets s m args below meth c 0 0 (MQ below (QL X 0 r M s.heap.size) args s 0 0 (AA X 0 s.heap.size)) 7 M 7 [(0, .ref (X.2.2 1)), (1, .int a1), (2, .long a_3.1), (4, .int a_3.2)] [])) (fun a_3 x hb hc hr => p_X9_fittingSets_L7 S  hb hc (fun b hxe => by rw [hr b hxe]; exact hX)) FU ((-1), 0) hl
    exact hZ9
set_option maxRecDepth 100000 in
set_option maxHeartbeats 4000000 in
theorem p_X9_group_J10 {X : Cx} {p : Program} {l : Launch} {e : Env} {s : State} {m : MethodId} {args : Array Value} {below : List Frame} {meth : Method} {c : Code} (hl0 : l.stackTraces = false) (T0 : ∀ x ∈ c.exceptionTable.toList, False) (S : SB X 0 p s m args meth c cX9_group 7 (some .int) RX9) {M : Mm} {rx : ((Int32 × Mm) ⊕ (Nat × Mm))}  (he : f_X9_group_J10 M  = some rx) : Z X 0 p l e rm_X9_group s m args below meth c 0 0 (vx_MQ below (QXI X 0 rx s.heap.size) (XCX X 0 rx s.heap.size) args s 1 6 (AA X 0 s.heap.size)) 7 M 10 [] [] := by
  unfold f_X9_group_J10 at he
  exact z_throwW S hl0 T0 tx_RX9_226_287_230 (k := 2) rfl (Option.some.inj he) dX9_group_10 dX9_group_13 dX9_group_14 dX9_group_17 dX9_group_20 (Nat.le_of_ble_eq_true rfl) (Nat.le_of_ble_eq_true rfl) (Nat.le_of_ble_eq_true rfl) (Nat.le_of_ble_eq_true rfl) (by decide) (by decide)
set_option maxRecDepth 100000 in
set_option maxHeartbeats 4000000 in
theorem p_X9_group_J38_93 {X : Cx} {p : Program} {l : Launch} {e : Env} {s : State} {m : MethodId} {args : Array Value} {below : List Frame} {meth : Method} {c : Code} (hl0 : l.stackTraces = false) (T0 : ∀ x ∈ c.exceptionTable.toList, False) (S : SB X 0 p s m args meth c cX9_group 7 (some .int) RX9) {M : Mm} {rx : ((Int32 × Mm) ⊕ (Nat × Mm))} {v1 : Int32} {v2 : Int32} {v4 : Int32} {v5 : Int32} {v6 : Int32} {t0 : Int32} {t1 : Int32} {x : (Int32 × Int32 × Int32) ⊕ (Int32 × Int32)}  (he : f_X9_group_J38_93 M v1 v2 v4 v5 v6 t0 t1 = some x) (hc : ∀ b, x = .inl b → Z X 0 p l e rm_X9_group s m args below meth c 0 0 (vx_MQ below (QXI X 0 rx s.heap.size) (XCX X 0 rx s.heap.size) args s 1 6 (AA X 0 s.heap.size)) 7 M 38 [(0, .ref (X.2.2 1)), (1, .int v1), (2, .int v2), (3, .int b.1), (4, .int b.2.1), (5, .int b.2.2)] []) (hx : ∀ b, x = .inr b → Z X 0 p l e rm_X9_group s m args below meth c 0 0 (vx_MQ below (QXI X 0 rx s.heap.size) (XCX X 0 rx s.heap.size) args s 1 6 (AA X 0 s.heap.size)) 7 M 120 [(2, .int v2), (3, .int b.1), (4, .int b.2)] []) : Z X 0 p l e rm_X9_group s m args below meth c 0 0 (vx_MQ below (QXI X 0 rx s.heap.size) (XCX X 0 rx s.heap.size) args s 1 6 (AA X 0 s.heap.size)) 7 M 93 [(0, .ref (X.2.2 1)), (1, .int v1), (2, .int v2), (4, .int v4), (5, .int v5), (6, .int v6)] [.int t0, .int t1] := by
  unfold f_X9_group_J38_93 at he
  refine z_ior S dX9_group_93 ?_
  refine z_istore_n (lv' := [(0, .ref (X.2.2 1)), (1, .int v1), (2, .int v2), (3, .int (t1 ||| t0)), (4, .int v4), (5, .int v5), (6, .int v6)]) S [1, 2, 3, 0, 4, 5, 6] dX9_group_94 rfl (by decide) rfl ?_
  refine z_iload S dX9_group_95 4 rfl ?_
  refine z_iload S dX9_group_97 6 rfl ?_
  refine z_iconst (v := (-1)) S dX9_group_99 (by decide) ?_
  refine z_icmp_ne (tgt := 110) S he dX9_group_100 (by decide) (fun he => ?_) (fun he => ?_)
  · refine z_iconst (v := 0) S dX9_group_110 (by decide) ?_
    refine z_ior S dX9_group_111 ?_
    refine z_istore (lv' := [(0, .ref (X.2.2 1)), (1, .int v1), (2, .int v2), (3, .int (t1 ||| t0)), (4, .int (v4 ||| 0)), (5, .int v5)]) S [1, 2, 3, 4, 0, 5] dX9_group_112 (by decide) rfl ?_
    refine z_iinc (v := (v5 + 1)) (lv' := [(0, .ref (X.2.2 1)), (1, .int v1), (2, .int v2), (3, .int (t1 ||| t0)), (4, .int (v4 ||| 0)), (5, .int (v5 + 1))]) S [1, 2, 3, 4, 5, 0] 5 dX9_group_114 rfl (by rfl) (by decide) rfl ?_
    refine z_goto (tgt := 38) S dX9_group_117 (by decide) ?_
    refine z_lv (ks := [0, 1, 2, 3, 4, 5]) rfl ?_
    exact hc _ (Option.some.inj he).symm
  · refine z_iconst (v := 1) S dX9_group_103 (by decide) ?_
    refine z_iload S dX9_group_104 5 rfl ?_
    refine z_ishl S dX9_group_106 ?_
    refine z_goto (tgt := 111) S dX9_group_107 (by decide) ?_
    refine z_ior S dX9_group_111 ?_
    obtain ⟨x6, ex6, he⟩ := bnd he
    rw [Option.some.inj ex6]
    refine z_istore (lv' := [(0, .ref (X.2.2 1)), (1, .int v1), (2, .int v2), (3, .int (t1 ||| t0)), (4, .int x6), (5, .int v5)]) S [1, 2, 3, 4, 0, 5] dX9_group_112 (by decide) rfl ?_
    refine z_iinc (v := (v5 + 1)) (lv' := [(0, .ref (X.2.2 1)), (1, .int v1), (2, .int v2), (3, .int (t1 ||| t0)), (4, .int x6), (5, .int (v5 + 1))]) S [1, 2, 3, 4, 5, 0] 5 dX9_group_114 rfl (by rfl) (by decide) rfl ?_
    refine z_goto (tgt := 38) S dX9_group_117 (by decide) ?_
    refine z_lv (ks := [0, 1, 2, 3, 4, 5]) rfl ?_
    exact hc _ (Option.some.inj he).symm
set_option maxRecDepth 100000 in
set_option maxHeartbeats 4000000 in
theorem p_X9_group_L38 {X : Cx} {p : Program} {l : Launch} {e : Env} {s : State} {m : MethodId} {args : Array Value} {below : List Frame} {meth : Method} {c : Code} (hl0 : l.stackTraces = false) (T0 : ∀ x ∈ c.exceptionTable.toList, False) (S : SB X 0 p s m args meth c cX9_group 7 (some .int) RX9) {M : Mm} {rx : ((Int32 × Mm) ⊕ (Nat × Mm))} {v1 : Int32} {v2 : Int32} {v3 : Int32} {v4 : Int32} {v5 : Int32} {x : (Int32 × Int32 × Int32) ⊕ (Int32 × Int32)}  (he : f_X9_group_L38 M v1 v2 v3 v4 v5 = some x) (hc : ∀ b, x = .inl b → Z X 0 p l e rm_X9_group s m args below meth c 0 0 (vx_MQ below (QXI X 0 rx s.heap.size) (XCX X 0 rx s.heap.size) args s 1 6 (AA X 0 s.heap.size)) 7 M 38 [(0, .ref (X.2.2 1)), (1, .int v1), (2, .int v2), (3, .int b.1), (4, .int b.2.1), (5, .int b.2.2)] []) (hx : ∀ b, x = .inr b → Z X 0 p l e rm_X9_group s m args below meth c 0 0 (vx_MQ below (QXI X 0 rx s.heap.size) (XCX X 0 rx s.heap.size) args s 1 6 (AA X 0 s.heap.size)) 7 M 120 [(2, .int v2), (3, .int b.1), (4, .int b.2)] []) : Z X 0 p l e rm_X9_group s m args below meth c 0 0 (vx_MQ below (QXI X 0 rx s.heap.size) (XCX X 0 rx s.heap.size) args s 1 6 (AA X 0 s.heap.size)) 7 M 38 [(0, .ref (X.2.2 1)), (1, .int v1), (2, .int v2), (3, .int v3), (4, .int v4), (5, .int v5)] [] := by
  unfold f_X9_group_L38 at he
  refine z_iload S dX9_group_38 5 rfl ?_
  refine z_aload_n S dX9_group_40 rfl 0 rfl ?_
  refine z_getGb (k2 := 4) S fo_RX9_20 rfl ok_1 (by decide) he dX9_group_41 (fun q4 hq4 he => ?_)
  refine z_getI S fo_RX9_289 rfl (okk4 hq4) dX9_group_44 ?_
  refine z_icmp_ge (tgt := 120) S he dX9_group_47 (by decide) (fun he => ?_) (fun he => ?_)
  · refine z_lv (ks := [2, 3, 4]) rfl ?_
    exact hx _ (Option.some.inj he).symm
  · refine z_aload_n S dX9_group_50 rfl 0 rfl ?_
    refine z_getGb (k2 := 4) S fo_RX9_20 rfl ok_1 (by decide) he dX9_group_51 (fun q5 hq5 he => ?_)
    refine z_iload S dX9_group_54 5 rfl ?_
    refine z_iconst (v := 2) S dX9_group_56 (by decide) ?_
    refine z_cVI (As := [.int v5, .int 2]) S cv_RX9_174 (K_X4_ofVisitor (okk4 hq5) rfl) (okk4 hq5) (by decide) (q := (RX4, TX4, 10)) rfl rfl ⟨rfl, rfl⟩ ⟨Nat.le_of_ble_eq_true rfl, Nat.le_of_ble_eq_true rfl⟩ ⟨Nat.le_of_ble_eq_true rfl, Nat.le_of_ble_eq_true rfl⟩ rfl rfl (Nat.le_of_ble_eq_true rfl) dX9_group_57 ?_
    refine z_iload_n S dX9_group_60 rfl 1 rfl ?_
    refine z_icmp_ne (tgt := 114) S he dX9_group_61 (by decide) (fun he => ?_) (fun he => ?_)
    · refine z_iinc (v := (v5 + 1)) (lv' := [(0, .ref (X.2.2 1)), (1, .int v1), (2, .int v2), (3, .int v3), (4, .int v4), (5, .int (v5 + 1))]) S [1, 2, 3, 4, 5, 0] 5 dX9_group_114 rfl (by rfl) (by decide) rfl ?_
      refine z_goto (tgt := 38) S dX9_group_117 (by decide) ?_
      refine z_lv (ks := [0, 1, 2, 3, 4, 5]) rfl ?_
      exact hc _ (Option.some.inj he).symm
    · refine z_aload_n S dX9_group_64 rfl 0 rfl ?_
      refine z_getF (j := 82) S fo_RX9_50 81 rfl rfl ok_1 dX9_group_65 ?_
      refine z_getF (j := 85) S fo_RX9_181 3 rfl rfl ok_82 dX9_group_68 ?_
      refine z_iload S dX9_group_71 5 rfl ?_
      refine z_cSI (As := [.ref (X.2.2 85), .int v5]) S cs_RX9_158 (Kt_X9_at ok_85 rfl) ⟨rfl, rfl⟩ ⟨Nat.le_of_ble_eq_true rfl, Nat.le_of_ble_eq_true rfl⟩ ⟨Nat.le_of_ble_eq_true rfl, Nat.le_of_ble_eq_true rfl⟩ rfl rfl (Nat.le_of_ble_eq_true rfl) dX9_group_73 ?_
      refine z_istore (lv' := [(0, .ref (X.2.2 1)), (1, .int v1), (2, .int v2), (3, .int v3), (4, .int v4), (5, .int v5), (6, .int (t_X9_at M 85 v5))]) S [1, 2, 3, 4, 5, 6, 0] dX9_group_76 (by decide) rfl ?_
      refine z_iload_n S dX9_group_78 rfl 3 rfl ?_
      refine z_iload S dX9_group_79 6 rfl ?_
      refine z_iconst (v := (-1)) S dX9_group_81 (by decide) ?_
      refine z_icmp_ne (tgt := 89) S he dX9_group_82 (by decide) (fun he => ?_) (fun he => ?_)
      · refine z_iconst (v := 1) S dX9_group_89 (by decide) ?_
        refine z_iload S dX9_group_90 6 rfl ?_
        refine z_ishl S dX9_group_92 ?_
        refine z_lv (ks := [0, 1, 2, 4, 5, 6]) rfl ?_
        exact p_X9_group_J38_93 hl0 T0 S  he hc hx
      · refine z_iconst (v := 0) S dX9_group_85 (by decide) ?_
        refine z_goto (tgt := 93) S dX9_group_86 (by decide) ?_
        refine z_lv (ks := [0, 1, 2, 4, 5, 6]) rfl ?_
        exact p_X9_group_J38_93 hl0 T0 S  he hc hx
set_option maxRecDepth 100000 in
set_option maxHeartbeats 4000000 in
theorem K_X9_group {X : Cx} {l : Launch} (hl0 : l.stackTraces = false) {M : Mm} {a1 : Int32} {a2 : Int32} {rx : ((Int32 × Mm) ⊕ (Nat × Mm))}  (he : f_X9_group M a1 a2 = some rx) : KXI X 0 l yX9_group (wz yX9_group cX9_group 7 (some .int)) rm_X9_group 1 6 [.ref (X.2.2 1), .int a1, .int a2] M rx := by
  intro sz
  refine KX_of (Qc := fun sz => QXI X 0 rx sz) (XC := fun sz => XCX X 0 rx sz) (own := RX9) (lv0 := [(0, .ref (X.2.2 1)), (1, .int a1), (2, .int a2)]) (by decide +kernel) rfl (Nat.le_of_ble_eq_true rfl) rfl (fun p e s m args below meth c S T0 => ?_) sz
  · unfold f_X9_group at he
    refine z_iload_n S dX9_group_0 rfl 1 rfl ?_
    refine z_if_lt (tgt := 10) S he dX9_group_1 (by decide) (fun he => ?_) (fun he => ?_)
    · refine z_lv (ks := []) rfl ?_
      exact p_X9_group_J10 hl0 T0 S  he
    · refine z_iload_n S dX9_group_4 rfl 1 rfl ?_
      refine z_bipush (v := 10) S dX9_group_5 (by decide) ?_
      refine z_icmp_lt (tgt := 21) S he dX9_group_7 (by decide) (fun he => ?_) (fun he => ?_)
      · refine z_aload_n S dX9_group_21 rfl 0 rfl ?_
        refine z_aload_n S dX9_group_22 rfl 0 rfl ?_
        refine z_getGb (k2 := 4) S fo_RX9_20 rfl ok_1 (by decide) he dX9_group_23 (fun q1 hq1 he => ?_)
        obtain ⟨⟨r2, M3⟩, h9, he⟩ := bnd he
        dsimp only at he
        refine z_cVI (As := [.ref (X.2.2 q1)]) S cv_RX9_151 (K_X9_tomorrow (okk4 hq1) h9) ok_1 (by decide) (q := (RX9, TX9, 17)) rfl rfl ⟨rfl, rfl⟩ ⟨Nat.le_of_ble_eq_true rfl, Nat.le_of_ble_eq_true rfl⟩ ⟨Nat.le_of_ble_eq_true rfl, Nat.le_of_ble_eq_true rfl⟩ rfl rfl (Nat.le_of_ble_eq_true rfl) dX9_group_26 ?_
        refine z_pop S rfl dX9_group_29 ?_
        refine z_iconst (v := 0) S dX9_group_30 (by decide) ?_
        refine z_istore_n (lv' := [(0, .ref (X.2.2 1)), (1, .int a1), (2, .int a2), (3, .int 0)]) S [1, 2, 3, 0] dX9_group_31 rfl (by decide) rfl ?_
        refine z_iconst (v := 0) S dX9_group_32 (by decide) ?_
        refine z_istore (lv' := [(0, .ref (X.2.2 1)), (1, .int a1), (2, .int a2), (3, .int 0), (4, .int 0)]) S [1, 2, 3, 4, 0] dX9_group_33 (by decide) rfl ?_
        refine z_iconst (v := 0) S dX9_group_35 (by decide) ?_
        refine z_istore (lv' := [(0, .ref (X.2.2 1)), (1, .int a1), (2, .int a2), (3, .int 0), (4, .int 0), (5, .int 0)]) S [1, 2, 3, 4, 5, 0] dX9_group_36 (by decide) rfl ?_
        obtain ⟨e_7, hl, he⟩ := bnd he
        have hX : Z X 0 p l e rm_X9_group s m args below meth c 0 0 (vx_MQ below (QXI X 0 rx s.heap.size) (XCX X 0 rx s.heap.size) args s 1 6 (AA X 0 s.heap.size)) 7 M3 120 [(2, .int a2), (3, .int e_7.1), (4, .int e_7.2)] [] := by
          refine z_iload_n S dX9_group_120 rfl 0 rfl ?_
          refine z_if_eq (tgt := 129) S he dX9_group_121 (by decide) (fun he => ?_) (fun he => ?_)
          · refine z_iload_n S dX9_group_129 rfl 1 rfl ?_
            exact z_xiret S (Option.some.inj he) (by decide) (by decide) dX9_group_130
          · refine z_iload S dX9_group_124 2 rfl ?_
            refine z_goto (tgt := 130) S dX9_group_126 (by decide) ?_
            exact z_xiret S (Option.some.inj he) (by decide) (by decide) dX9_group_130
        have hZ9 := loopZ (f := (fun a_7 => f_X9_group_L38 M3 a1 a2 a_7.1 a_7.2.1 a_7.2.2)) (Zh := (fun a_7 => Z X 0 p l e rm_X9_group s m args below meth c 0 0 (vx_MQ below (QXI X 0 rx s.heap.size) (XCX X 0 rx s.heap.size) args s 1 6 (AA X 0 s.heap.size)) 7 M3 38 [(0, .ref (X.2.2 1)), (1, .int a1), (2, .int a2), (3, .int a_7.1), (4, .int a_7.2.1), (5, .int a_7.2.2)] [])) (fun a_7 x hb hc hr => p_X9_group_L38 hl0 T0 S  hb hc (fun b hxe => by rw [hr b hxe]; exact hX)) FU (0, 0, 0) hl
        exact hZ9
      · refine z_lv (ks := []) rfl ?_
        exact p_X9_group_J10 hl0 T0 S  he
set_option maxRecDepth 100000 in
set_option maxHeartbeats 4000000 in
theorem K_X9_had {X : Cx} {l : Launch} {M : Mm} {r : Int32} {N : Mm}  (he : f_X9_had M  = some (r, N)) : KI X 0 l yX9_had (wz yX9_had cX9_had 1 (some .int)) rm_X9_had [.ref (X.2.2 1)] M r N := by
  intro sz
  refine K_of (Qc := (fun sz => QI X 0 r N sz)) (own := RX9) (lv0 := [(0, .ref (X.2.2 1))]) (by decide +kernel) rfl (Nat.le_of_ble_eq_true rfl) rfl (fun p e s m args below meth c S => ?_) sz
  · unfold f_X9_had at he
    refine z_aload_n S dX9_had_0 rfl 0 rfl ?_
    refine z_aload_n S dX9_had_1 rfl 0 rfl ?_
    refine z_getGb (k2 := 4) S fo_RX9_20 rfl ok_1 (by decide) he dX9_had_2 (fun q1 hq1 he => ?_)
    obtain ⟨⟨r2, M3⟩, h9, he⟩ := bnd he
    dsimp only at he
    refine z_cVI (As := [.ref (X.2.2 q1)]) S cv_RX9_151 (K_X9_tomorrow (okk4 hq1) h9) ok_1 (by decide) (q := (RX9, TX9, 17)) rfl rfl ⟨rfl, rfl⟩ ⟨Nat.le_of_ble_eq_true rfl, Nat.le_of_ble_eq_true rfl⟩ ⟨Nat.le_refl _, Nat.le_refl _⟩ rfl rfl (Nat.le_of_ble_eq_true rfl) dX9_had_5 ?_
    refine z_pop S rfl dX9_had_8 ?_
    refine z_aload_n S dX9_had_9 rfl 0 rfl ?_
    refine z_getF (j := 82) S fo_RX9_50 81 rfl rfl ok_1 dX9_had_10 ?_
    obtain ⟨r4, h9, he⟩ := bnd he
    refine z_cVI (As := []) S cv_RX9_249 (K_X6_hadAtAll  h9) ok_82 (by decide) (q := (RX6, TX6, 4)) rfl rfl ⟨rfl, rfl⟩ ⟨Nat.le_of_ble_eq_true rfl, Nat.le_of_ble_eq_true rfl⟩ ⟨Nat.le_refl _, Nat.le_refl _⟩ rfl rfl (Nat.le_of_ble_eq_true rfl) dX9_had_13 ?_
    exact z_iret S (Prod.mk.inj (Option.some.inj he)) dX9_had_16
set_option maxRecDepth 100000 in
set_option maxHeartbeats 4000000 in
theorem K_X9_useTapeUp {X : Cx} {l : Launch} {M : Mm} {r : Int32} {N : Mm}  (he : f_X9_useTapeUp M  = (r, N)) : KI X 0 l yX9_useTapeUp (wz yX9_useTapeUp cX9_useTapeUp 2 (some .int)) rm_X9_useTapeUp [.ref (X.2.2 1)] M r N := by
  intro sz
  refine K_of (Qc := (fun sz => QI X 0 r N sz)) (own := RX9) (lv0 := [(0, .ref (X.2.2 1))]) (by decide +kernel) rfl (Nat.le_of_ble_eq_true rfl) rfl (fun p e s m args below meth c S => ?_) sz
  · unfold f_X9_useTapeUp at he
    refine z_aload_n S dX9_useTapeUp_0 rfl 0 rfl ?_
    refine z_getI S fo_RX9_82 rfl ok_1 dX9_useTapeUp_1 ?_
    refine z_istore_n (lv' := [(0, .ref (X.2.2 1)), (1, .int (gI M 1 1))]) S [1, 0] dX9_useTapeUp_4 rfl (by decide) rfl ?_
    refine z_aload_n S dX9_useTapeUp_5 rfl 0 rfl ?_
    refine z_iconst (v := 0) S dX9_useTapeUp_6 (by decide) ?_
    refine z_putI S fo_RX9_82p rfl ok_1 rfl rfl dX9_useTapeUp_7 ?_
    refine z_iload_n S dX9_useTapeUp_10 rfl 1 rfl ?_
    exact z_iret S (Prod.mk.inj (he)) dX9_useTapeUp_11
set_option maxRecDepth 100000 in
set_option maxHeartbeats 4000000 in
theorem K_X9_hall {X : Cx} {l : Launch} (hl0 : l.stackTraces = false) {M : Mm} {rx : ((Int32 × Mm) ⊕ (Nat × Mm))}  (he : f_X9_hall M  = some rx) : KXI X 0 l yX9_hall (wz yX9_hall cX9_hall 3 (some .int)) rm_X9_hall 1 6 [.ref (X.2.2 1)] M rx := by
  intro sz
  refine KX_of (Qc := fun sz => QXI X 0 rx sz) (XC := fun sz => XCX X 0 rx sz) (own := RX9) (lv0 := [(0, .ref (X.2.2 1))]) (by decide +kernel) rfl (Nat.le_of_ble_eq_true rfl) rfl (fun p e s m args below meth c S T0 => ?_) sz
  · unfold f_X9_hall at he
    refine z_aload_n S dX9_hall_0 rfl 0 rfl ?_
    refine z_getGb (k2 := 4) S fo_RX9_24 rfl ok_1 (by decide) he dX9_hall_1 (fun q1 hq1 he => ?_)
    refine z_aload_n S dX9_hall_4 rfl 0 rfl ?_
    refine z_getGb (k2 := 4) S fo_RX9_20 rfl ok_1 (by decide) he dX9_hall_5 (fun q2 hq2 he => ?_)
    obtain ⟨M3, h9, he⟩ := bnd he
    refine z_cVV (As := [.ref (X.2.2 q2)]) S cv_RX9_93 (K_X4_copyFrom (okk4 hq1) (okk4 hq2) h9) (okk4 hq1) (by decide) (q := (RX4, TX4, 10)) rfl rfl ⟨rfl, rfl⟩ ⟨Nat.le_of_ble_eq_true rfl, Nat.le_of_ble_eq_true rfl⟩ ⟨Nat.le_of_ble_eq_true rfl, Nat.le_of_ble_eq_true rfl⟩ rfl rfl (Nat.le_of_ble_eq_true rfl) dX9_hall_8 ?_
    refine z_aload_n S dX9_hall_11 rfl 0 rfl ?_
    refine z_getF (j := 97) S fo_RX9_71 96 rfl rfl ok_1 dX9_hall_12 ?_
    refine z_aload_n S dX9_hall_15 rfl 0 rfl ?_
    refine z_getGb (k2 := 4) S fo_RX9_24 rfl ok_1 (by decide) he dX9_hall_16 (fun q4 hq4 he => ?_)
    refine z_aload_n S dX9_hall_19 rfl 0 rfl ?_
    refine z_getF (j := 2) S fo_RX9_9 1 rfl rfl ok_1 dX9_hall_20 ?_
    refine z_aload_n S dX9_hall_23 rfl 0 rfl ?_
    obtain ⟨⟨r5, M6⟩, h9, he⟩ := bnd he
    dsimp only at he
    refine z_cVI (As := []) S cv_RX9_97 (K_X9_useTapeUp  (Option.some.inj h9)) ok_1 (by decide) (q := (RX9, TX9, 17)) rfl rfl ⟨rfl, rfl⟩ ⟨Nat.le_of_ble_eq_true rfl, Nat.le_of_ble_eq_true rfl⟩ ⟨Nat.le_of_ble_eq_true rfl, Nat.le_of_ble_eq_true rfl⟩ rfl rfl (Nat.le_of_ble_eq_true rfl) dX9_hall_24 ?_
    obtain ⟨⟨r7, M8⟩, h9, he⟩ := bnd he
    dsimp only at he
    refine z_cVI (As := [.ref (X.2.2 q4), .ref (X.2.2 2), .int r5]) S cv_RX9_101 (K_X1_readInto (okk4 hq4) ok_2 h9) ok_97 (by decide) (q := (RX1, TX1, 2)) rfl rfl ⟨rfl, rfl⟩ ⟨Nat.le_of_ble_eq_true rfl, Nat.le_of_ble_eq_true rfl⟩ ⟨Nat.le_of_ble_eq_true rfl, Nat.le_of_ble_eq_true rfl⟩ rfl rfl (Nat.le_of_ble_eq_true rfl) dX9_hall_27 ?_
    refine z_istore_n (lv' := [(0, .ref (X.2.2 1)), (1, .int (bI r7))]) S [1, 0] dX9_hall_30 rfl (by decide) rfl ?_
    refine z_aload_n S dX9_hall_31 rfl 0 rfl ?_
    refine z_aload_n S dX9_hall_32 rfl 0 rfl ?_
    refine z_getF (j := 97) S fo_RX9_71 96 rfl rfl ok_1 dX9_hall_33 ?_
    refine z_getF (j := 98) S fo_RX9_105 1 rfl rfl ok_97 dX9_hall_36 ?_
    refine z_getI S fo_RX9_109 rfl ok_98 dX9_hall_39 ?_
    refine z_putIb S fo_RX9_13p rfl ok_1 rfl rfl he dX9_hall_42 (fun M9 he => ?_)
    refine z_iload_n S dX9_hall_45 rfl 1 rfl ?_
    refine z_ifb_ne (tgt := 59) S he dX9_hall_46 (by decide) (fun he => ?_) (fun he => ?_)
    · refine z_aload_n S dX9_hall_59 rfl 0 rfl ?_
      refine z_getGb (k2 := 4) S fo_RX9_20 rfl ok_1 (by decide) he dX9_hall_60 (fun q10 hq10 he => ?_)
      refine z_getI S fo_RX9_121 rfl (okk4 hq10) dX9_hall_63 ?_
      refine z_bipush (v := 12) S dX9_hall_66 (by decide) ?_
      refine z_icmp_lt (tgt := 81) S he dX9_hall_68 (by decide) (fun he => ?_) (fun he => ?_)
      · refine z_aload_n S dX9_hall_81 rfl 0 rfl ?_
        refine z_getGb (k2 := 4) S fo_RX9_20 rfl ok_1 (by decide) he dX9_hall_82 (fun q11 hq11 he => ?_)
        refine z_astore_n (lv' := [(0, .ref (X.2.2 1)), (2, .ref (X.2.2 q11))]) S [1, 0] dX9_hall_85 rfl (by decide) rfl ?_
        refine z_aload_n S dX9_hall_86 rfl 0 rfl ?_
        refine z_aload_n S dX9_hall_87 rfl 0 rfl ?_
        refine z_getGb (k2 := 4) S fo_RX9_24 rfl ok_1 (by decide) he dX9_hall_88 (fun q12 hq12 he => ?_)
        refine z_putRb S fo_RX9_20p rfl ok_1 (OK_ne (okk4 hq12)) he dX9_hall_91 (fun M13 he => ?_)
        refine z_aload_n S dX9_hall_94 rfl 0 rfl ?_
        refine z_aload_n S dX9_hall_95 rfl 1 rfl ?_
        refine z_putRb S fo_RX9_24p rfl ok_1 (OK_ne (okk4 hq11)) he dX9_hall_96 (fun M14 he => ?_)
        refine z_aload_n S dX9_hall_99 rfl 0 rfl ?_
        refine z_getGb (k2 := 4) S fo_RX9_20 rfl ok_1 (by decide) he dX9_hall_100 (fun q15 hq15 he => ?_)
        refine z_dup S rfl dX9_hall_103 ?_
        refine z_getI S fo_RX9_121 rfl (okk4 hq15) dX9_hall_104 ?_
        refine z_iconst (v := 1) S dX9_hall_107 (by decide) ?_
        refine z_iadd S dX9_hall_108 ?_
        refine z_putIb S fo_RX9_121p rfl (okk4 hq15) rfl rfl he dX9_hall_109 (fun M16 he => ?_)
        refine z_aload_n S dX9_hall_112 rfl 0 rfl ?_
        refine z_iconst (v := 0) S dX9_hall_113 (by decide) ?_
        refine z_putIb S fo_RX9_129p rfl ok_1 rfl rfl he dX9_hall_114 (fun M17 he => ?_)
        refine z_aload_n S dX9_hall_117 rfl 0 rfl ?_
        refine z_getGb (k2 := 4) S fo_RX9_20 rfl ok_1 (by decide) he dX9_hall_118 (fun q18 hq18 he => ?_)
        refine z_getI S fo_RX9_121 rfl (okk4 hq18) dX9_hall_121 ?_
        exact z_xiret S (Option.some.inj he) (by decide) (by decide) dX9_hall_124
      · exact z_throw S hl0 T0 tx_RX9_124_126_128 (k := 3) rfl (Option.some.inj he) dX9_hall_71 dX9_hall_74 dX9_hall_75 dX9_hall_77 dX9_hall_80 (Nat.le_of_ble_eq_true rfl) (Nat.le_of_ble_eq_true rfl) (Nat.le_of_ble_eq_true rfl) (Nat.le_of_ble_eq_true rfl) (by decide) (by decide)
    · exact z_throw S hl0 T0 tx_RX9_114_116_118 (k := 1) rfl (Option.some.inj he) dX9_hall_49 dX9_hall_52 dX9_hall_53 dX9_hall_55 dX9_hall_58 (Nat.le_of_ble_eq_true rfl) (Nat.le_of_ble_eq_true rfl) (Nat.le_of_ble_eq_true rfl) (Nat.le_of_ble_eq_true rfl) (by decide) (by decide)
set_option maxRecDepth 100000 in
set_option maxHeartbeats 4000000 in
theorem p_X9_hold_J15 {X : Cx} {p : Program} {l : Launch} {e : Env} {s : State} {m : MethodId} {args : Array Value} {below : List Frame} {meth : Method} {c : Code} (hl0 : l.stackTraces = false) (T0 : ∀ x ∈ c.exceptionTable.toList, False) (S : SB X 0 p s m args meth c cX9_hold 4 (some .int) RX9) {M : Mm} {rx : ((Int32 × Mm) ⊕ (Nat × Mm))}  (he : f_X9_hold_J15 M  = some rx) : Z X 0 p l e rm_X9_hold s m args below meth c 1 6 (vx_MQ below (QXI X 0 rx s.heap.size) (XCX X 0 rx s.heap.size) args s 2 12 (AA X 0 s.heap.size)) 4 M 15 [] [] := by
  unfold f_X9_hold_J15 at he
  exact z_throw S hl0 T0 tx_RX9_114_219_118 (k := 1) rfl (Option.some.inj he) dX9_hold_15 dX9_hold_18 dX9_hold_19 dX9_hold_21 dX9_hold_24 (Nat.le_of_ble_eq_true rfl) (Nat.le_of_ble_eq_true rfl) (Nat.le_of_ble_eq_true rfl) (Nat.le_of_ble_eq_true rfl) (by decide) (by decide)
set_option maxRecDepth 100000 in
set_option maxHeartbeats 4000000 in
theorem K_X9_hold {X : Cx} {l : Launch} (hl0 : l.stackTraces = false) {M : Mm} {a1 : Int32} {a2 : Int32} {rx : ((Int32 × Mm) ⊕ (Nat × Mm))}  (he : f_X9_hold M a1 a2 = some rx) : KXI X 0 l yX9_hold (wz yX9_hold cX9_hold 4 (some .int)) rm_X9_hold 2 12 [.ref (X.2.2 1), .int a1, .int a2] M rx := by
  intro sz
  refine KX_of (Qc := fun sz => QXI X 0 rx sz) (XC := fun sz => XCX X 0 rx sz) (own := RX9) (lv0 := [(0, .ref (X.2.2 1)), (1, .int a1), (2, .int a2)]) (by decide +kernel) rfl (Nat.le_of_ble_eq_true rfl) rfl (fun p e s m args below meth c S T0 => ?_) sz
  · unfold f_X9_hold at he
    refine z_aload_n S dX9_hold_0 rfl 0 rfl ?_
    refine z_iload_n S dX9_hold_1 rfl 1 rfl ?_
    obtain ⟨r9, h9, hr1, hr2⟩ := bndS he
    refine z_xVV (As := [.int a1]) S cv_RX9_139 (K_X9_needThing hl0  h9) ok_1 (by decide) (q := (RX9, TX9, 17)) rfl rfl ⟨rfl, rfl⟩ ⟨Nat.le_of_ble_eq_true rfl, Nat.le_of_ble_eq_true rfl⟩ ⟨Nat.le_of_ble_eq_true rfl, Nat.le_of_ble_eq_true rfl⟩ rfl rfl (Nat.le_of_ble_eq_true rfl) dX9_hold_2 T0 (by decide) (by decide) (fun q hq => Option.some.inj (hr2 q hq)) (fun e_0 hE => ?_)
    have he := hr1 _ hE
    refine z_iload_n S dX9_hold_5 rfl 2 rfl ?_
    refine z_if_lt (tgt := 15) S he dX9_hold_6 (by decide) (fun he => ?_) (fun he => ?_)
    · refine z_lv (ks := []) rfl ?_
      exact p_X9_hold_J15 hl0 T0 S  he
    · refine z_iload_n S dX9_hold_9 rfl 2 rfl ?_
      refine z_bipush (v := 100) S dX9_hold_10 (by decide) ?_
      refine z_icmp_lt (tgt := 25) S he dX9_hold_12 (by decide) (fun he => ?_) (fun he => ?_)
      · refine z_aload_n S dX9_hold_25 rfl 0 rfl ?_
        obtain ⟨M2, h9, he⟩ := bnd he
        refine z_cVV (As := []) S cv_RX9_209 (K_X9_remember  h9) ok_1 (by decide) (q := (RX9, TX9, 17)) rfl rfl ⟨rfl, rfl⟩ ⟨Nat.le_of_ble_eq_true rfl, Nat.le_of_ble_eq_true rfl⟩ ⟨Nat.le_of_ble_eq_true rfl, Nat.le_of_ble_eq_true rfl⟩ rfl rfl (Nat.le_of_ble_eq_true rfl) dX9_hold_26 ?_
        refine z_aload_n S dX9_hold_29 rfl 0 rfl ?_
        refine z_getGb (k2 := 4) S fo_RX9_20 rfl ok_1 (by decide) he dX9_hold_30 (fun q3 hq3 he => ?_)
        refine z_iload_n S dX9_hold_33 rfl 1 rfl ?_
        refine z_iconst (v := 1) S dX9_hold_34 (by decide) ?_
        refine z_cVI (As := [.int a1, .int 1]) S cv_RX9_147 (K_X4_ofThing (okk4 hq3) rfl) (okk4 hq3) (by decide) (q := (RX4, TX4, 10)) rfl rfl ⟨rfl, rfl⟩ ⟨Nat.le_of_ble_eq_true rfl, Nat.le_of_ble_eq_true rfl⟩ ⟨Nat.le_of_ble_eq_true rfl, Nat.le_of_ble_eq_true rfl⟩ rfl rfl (Nat.le_of_ble_eq_true rfl) dX9_hold_35 ?_
        obtain ⟨x4, ex4, he⟩ := bnd he
        rw [Option.some.inj ex4]
        refine z_istore_n (lv' := [(0, .ref (X.2.2 1)), (1, .int a1), (2, .int a2), (3, .int x4)]) S [1, 2, 3, 0] dX9_hold_38 rfl (by decide) rfl ?_
        refine z_aload_n S dX9_hold_39 rfl 0 rfl ?_
        refine z_getGb (k2 := 4) S fo_RX9_20 rfl ok_1 (by decide) he dX9_hold_40 (fun q5 hq5 he => ?_)
        refine z_iload_n S dX9_hold_43 rfl 1 rfl ?_
        refine z_iconst (v := 1) S dX9_hold_44 (by decide) ?_
        refine z_iload_n S dX9_hold_45 rfl 2 rfl ?_
        obtain ⟨M6, h9, he⟩ := bnd he
        refine z_cVV (As := [.int a1, .int 1, .int a2]) S cv_RX9_215 (K_X4_setThing (okk4 hq5) (Option.some.inj h9)) (okk4 hq5) (by decide) (q := (RX4, TX4, 10)) rfl rfl ⟨rfl, rfl⟩ ⟨Nat.le_of_ble_eq_true rfl, Nat.le_of_ble_eq_true rfl⟩ ⟨Nat.le_of_ble_eq_true rfl, Nat.le_of_ble_eq_true rfl⟩ rfl rfl (Nat.le_of_ble_eq_true rfl) dX9_hold_46 ?_
        refine z_iload_n S dX9_hold_49 rfl 3 rfl ?_
        exact z_xiret S (Option.some.inj he) (by decide) (by decide) dX9_hold_50
      · refine z_lv (ks := []) rfl ?_
        exact p_X9_hold_J15 hl0 T0 S  he
set_option maxRecDepth 100000 in
set_option maxHeartbeats 4000000 in
theorem K_X9_image {X : Cx} {l : Launch} {M : Mm} {N : Mm}  (he : f_X9_image M  = some N) : KV X 0 l yX9_image (wz yX9_image cX9_image 1 none) rm_X9_image [.ref (X.2.2 1)] M N := by
  intro sz
  refine K_of (Qc := (fun sz => QV X 0 N sz)) (own := RX9) (lv0 := [(0, .ref (X.2.2 1))]) (by decide +kernel) rfl (Nat.le_of_ble_eq_true rfl) rfl (fun p e s m args below meth c S => ?_) sz
  · unfold f_X9_image at he
    refine z_aload_n S dX9_image_0 rfl 0 rfl ?_
    refine z_getF (j := 60) S fo_RX9_37 59 rfl rfl ok_1 dX9_image_1 ?_
    refine z_aload_n S dX9_image_4 rfl 0 rfl ?_
    refine z_getGb (k2 := 4) S fo_RX9_20 rfl ok_1 (by decide) he dX9_image_5 (fun q1 hq1 he => ?_)
    obtain ⟨M2, h9, he⟩ := bnd he
    refine z_cVV (As := [.ref (X.2.2 q1)]) S cv_RX9_93 (K_X4_copyFrom ok_60 (okk4 hq1) h9) ok_60 (by decide) (q := (RX4, TX4, 10)) rfl rfl ⟨rfl, rfl⟩ ⟨Nat.le_of_ble_eq_true rfl, Nat.le_of_ble_eq_true rfl⟩ ⟨Nat.le_refl _, Nat.le_refl _⟩ rfl rfl (Nat.le_of_ble_eq_true rfl) dX9_image_8 ?_
    refine z_aload_n S dX9_image_11 rfl 0 rfl ?_
    refine z_getF (j := 76) S fo_RX9_40 75 rfl rfl ok_1 dX9_image_12 ?_
    refine z_aload_n S dX9_image_15 rfl 0 rfl ?_
    refine z_getGb (k2 := 2) S fo_RX9_30 rfl ok_1 (by decide) he dX9_image_16 (fun q3 hq3 he => ?_)
    obtain ⟨M4, h9, he⟩ := bnd he
    refine z_cVV (As := [.ref (X.2.2 q3)]) S cv_RX9_348 (K_X2_copyFrom ok_76 (okk2 hq3) h9) ok_76 (by decide) (q := (RX2, TX2, 7)) rfl rfl ⟨rfl, rfl⟩ ⟨Nat.le_of_ble_eq_true rfl, Nat.le_of_ble_eq_true rfl⟩ ⟨Nat.le_refl _, Nat.le_refl _⟩ rfl rfl (Nat.le_of_ble_eq_true rfl) dX9_image_19 ?_
    refine z_aload_n S dX9_image_22 rfl 0 rfl ?_
    refine z_iconst (v := 1) S dX9_image_23 (by decide) ?_
    refine z_putIb S fo_RX9_351p rfl ok_1 rfl rfl he dX9_image_24 (fun M5 he => ?_)
    exact z_vret S (Option.some.inj he) dX9_image_27
set_option maxRecDepth 100000 in
set_option maxHeartbeats 4000000 in
theorem p_X9_last_L24 {X : Cx} {p : Program} {l : Launch} {e : Env} {s : State} {m : MethodId} {args : Array Value} {below : List Frame} {meth : Method} {c : Code} (hl0 : l.stackTraces = false) (T0 : ∀ x ∈ c.exceptionTable.toList, False) (S : SB X 0 p s m args meth c cX9_last 6 (some .int) RX9) {M : Mm} {rx : ((Int32 × Mm) ⊕ (Nat × Mm))} {v1 : Int32} {v2 : Int32} {v3 : Int32} {v4 : Int32} {v5 : Int32} {x : (Mm × Int32 × Int32 × Int32) ⊕ (Mm × Int32 × Int32)}  (he : f_X9_last_L24 M v1 v2 v3 v4 v5 = some x) (hc : ∀ b, x = .inl b → Z X 0 p l e rm_X9_last s m args below meth c 1 6 (vx_MQ below (QXI X 0 rx s.heap.size) (XCX X 0 rx s.heap.size) args s 1 6 (AA X 0 s.heap.size)) 6 b.1 24 [(0, .ref (X.2.2 1)), (1, .int v1), (2, .int v2), (3, .int b.2.1), (4, .int b.2.2.1), (5, .int b.2.2.2)] []) (hx : ∀ b, x = .inr b → Z X 0 p l e rm_X9_last s m args below meth c 1 6 (vx_MQ below (QXI X 0 rx s.heap.size) (XCX X 0 rx s.heap.size) args s 1 6 (AA X 0 s.heap.size)) 6 b.1 83 [(2, .int v2), (3, .int b.2.1), (4, .int b.2.2)] []) : Z X 0 p l e rm_X9_last s m args below meth c 1 6 (vx_MQ below (QXI X 0 rx s.heap.size) (XCX X 0 rx s.heap.size) args s 1 6 (AA X 0 s.heap.size)) 6 M 24 [(0, .ref (X.2.2 1)), (1, .int v1), (2, .int v2), (3, .int v3), (4, .int v4), (5, .int v5)] [] := by
  unfold f_X9_last_L24 at he
  refine z_iload S dX9_last_24 5 rfl ?_
  refine z_bipush (v := 30) S dX9_last_26 (by decide) ?_
  refine z_icmp_gt (tgt := 83) S he dX9_last_28 (by decide) (fun he => ?_) (fun he => ?_)
  · refine z_lv (ks := [2, 3, 4]) rfl ?_
    exact hx _ (Option.some.inj he).symm
  · refine z_aload_n S dX9_last_31 rfl 0 rfl ?_
    refine z_getF (j := 82) S fo_RX9_50 81 rfl rfl ok_1 dX9_last_32 ?_
    refine z_aload_n S dX9_last_35 rfl 0 rfl ?_
    refine z_getGb (k2 := 4) S fo_RX9_24 rfl ok_1 (by decide) he dX9_last_36 (fun q5 hq5 he => ?_)
    refine z_aload_n S dX9_last_39 rfl 0 rfl ?_
    refine z_getGb (k2 := 2) S fo_RX9_30 rfl ok_1 (by decide) he dX9_last_40 (fun q6 hq6 he => ?_)
    refine z_iconst (v := 0) S dX9_last_43 (by decide) ?_
    obtain ⟨⟨r7, M8⟩, h9, he⟩ := bnd he
    dsimp only at he
    refine z_cVI (As := [.ref (X.2.2 q5), .ref (X.2.2 q6), .int 0]) S cv_RX9_242 (K_X6_passDay (okk4 hq5) (okk2 hq6) h9) ok_82 (by decide) (q := (RX6, TX6, 4)) rfl rfl ⟨rfl, rfl⟩ ⟨Nat.le_of_ble_eq_true rfl, Nat.le_of_ble_eq_true rfl⟩ ⟨Nat.le_of_ble_eq_true rfl, Nat.le_of_ble_eq_true rfl⟩ rfl rfl (Nat.le_of_ble_eq_true rfl) dX9_last_44 ?_
    refine z_pop S rfl dX9_last_47 ?_
    refine z_aload_n S dX9_last_48 rfl 0 rfl ?_
    refine z_getF (j := 82) S fo_RX9_50 81 rfl rfl ok_1 dX9_last_49 ?_
    refine z_getF (j := 85) S fo_RX9_181 3 rfl rfl ok_82 dX9_last_52 ?_
    refine z_iload_n S dX9_last_55 rfl 1 rfl ?_
    refine z_cSI (As := [.ref (X.2.2 85), .int v1]) S cs_RX9_158 (Kt_X9_at ok_85 rfl) ⟨rfl, rfl⟩ ⟨Nat.le_of_ble_eq_true rfl, Nat.le_of_ble_eq_true rfl⟩ ⟨Nat.le_of_ble_eq_true rfl, Nat.le_of_ble_eq_true rfl⟩ rfl rfl (Nat.le_of_ble_eq_true rfl) dX9_last_56 ?_
    refine z_iconst (v := (-1)) S dX9_last_59 (by decide) ?_
    refine z_icmp_ne (tgt := 69) S he dX9_last_60 (by decide) (fun he => ?_) (fun he => ?_)
    · refine z_iload_n S dX9_last_69 rfl 3 rfl ?_
      refine z_iconst (v := (-1)) S dX9_last_70 (by decide) ?_
      refine z_icmp_ne (tgt := 77) S he dX9_last_71 (by decide) (fun he => ?_) (fun he => ?_)
      · refine z_iinc (v := (v5 + 1)) (lv' := [(0, .ref (X.2.2 1)), (1, .int v1), (2, .int v2), (3, .int v3), (4, .int v4), (5, .int (v5 + 1))]) S [1, 2, 3, 4, 5, 0] 5 dX9_last_77 rfl (by rfl) (by decide) rfl ?_
        refine z_goto (tgt := 24) S dX9_last_80 (by decide) ?_
        refine z_lv (ks := [0, 1, 2, 3, 4, 5]) rfl ?_
        exact hc _ (Option.some.inj he).symm
      · refine z_iload S dX9_last_74 5 rfl ?_
        refine z_istore_n (lv' := [(0, .ref (X.2.2 1)), (1, .int v1), (2, .int v2), (3, .int v5), (4, .int v4), (5, .int v5)]) S [1, 2, 3, 0, 4, 5] dX9_last_76 rfl (by decide) rfl ?_
        refine z_iinc (v := (v5 + 1)) (lv' := [(0, .ref (X.2.2 1)), (1, .int v1), (2, .int v2), (3, .int v5), (4, .int v4), (5, .int (v5 + 1))]) S [1, 2, 3, 4, 5, 0] 5 dX9_last_77 rfl (by rfl) (by decide) rfl ?_
        refine z_goto (tgt := 24) S dX9_last_80 (by decide) ?_
        refine z_lv (ks := [0, 1, 2, 3, 4, 5]) rfl ?_
        exact hc _ (Option.some.inj he).symm
    · refine z_iinc (v := (v4 + 1)) (lv' := [(0, .ref (X.2.2 1)), (1, .int v1), (2, .int v2), (3, .int v3), (4, .int (v4 + 1)), (5, .int v5)]) S [1, 2, 3, 4, 0, 5] 4 dX9_last_63 rfl (by rfl) (by decide) rfl ?_
      refine z_goto (tgt := 77) S dX9_last_66 (by decide) ?_
      refine z_iinc (v := (v5 + 1)) (lv' := [(0, .ref (X.2.2 1)), (1, .int v1), (2, .int v2), (3, .int v3), (4, .int (v4 + 1)), (5, .int (v5 + 1))]) S [1, 2, 3, 4, 5, 0] 5 dX9_last_77 rfl (by rfl) (by decide) rfl ?_
      refine z_goto (tgt := 24) S dX9_last_80 (by decide) ?_
      refine z_lv (ks := [0, 1, 2, 3, 4, 5]) rfl ?_
      exact hc _ (Option.some.inj he).symm
set_option maxRecDepth 100000 in
set_option maxHeartbeats 4000000 in
theorem K_X9_last {X : Cx} {l : Launch} (hl0 : l.stackTraces = false) {M : Mm} {a1 : Int32} {a2 : Int32} {rx : ((Int32 × Mm) ⊕ (Nat × Mm))}  (he : f_X9_last M a1 a2 = some rx) : KXI X 0 l yX9_last (wz yX9_last cX9_last 6 (some .int)) rm_X9_last 1 6 [.ref (X.2.2 1), .int a1, .int a2] M rx := by
  intro sz
  refine KX_of (Qc := fun sz => QXI X 0 rx sz) (XC := fun sz => XCX X 0 rx sz) (own := RX9) (lv0 := [(0, .ref (X.2.2 1)), (1, .int a1), (2, .int a2)]) (by decide +kernel) rfl (Nat.le_of_ble_eq_true rfl) rfl (fun p e s m args below meth c S T0 => ?_) sz
  · unfold f_X9_last at he
    refine z_aload_n S dX9_last_0 rfl 0 rfl ?_
    refine z_iload_n S dX9_last_1 rfl 1 rfl ?_
    obtain ⟨r9, h9, hr1, hr2⟩ := bndS he
    refine z_xVV (As := [.int a1]) S cv_RX9_169 (K_X9_needVisitor hl0  h9) ok_1 (by decide) (q := (RX9, TX9, 17)) rfl rfl ⟨rfl, rfl⟩ ⟨Nat.le_of_ble_eq_true rfl, Nat.le_of_ble_eq_true rfl⟩ ⟨Nat.le_of_ble_eq_true rfl, Nat.le_of_ble_eq_true rfl⟩ rfl rfl (Nat.le_of_ble_eq_true rfl) dX9_last_2 T0 (by decide) (by decide) (fun q hq => Option.some.inj (hr2 q hq)) (fun e_0 hE => ?_)
    have he := hr1 _ hE
    refine z_iconst (v := (-1)) S dX9_last_5 (by decide) ?_
    refine z_istore_n (lv' := [(0, .ref (X.2.2 1)), (1, .int a1), (2, .int a2), (3, .int (-1))]) S [1, 2, 3, 0] dX9_last_6 rfl (by decide) rfl ?_
    refine z_iconst (v := 0) S dX9_last_7 (by decide) ?_
    refine z_istore (lv' := [(0, .ref (X.2.2 1)), (1, .int a1), (2, .int a2), (3, .int (-1)), (4, .int 0)]) S [1, 2, 3, 4, 0] dX9_last_8 (by decide) rfl ?_
    refine z_aload_n S dX9_last_10 rfl 0 rfl ?_
    refine z_getGb (k2 := 4) S fo_RX9_24 rfl ok_1 (by decide) he dX9_last_11 (fun q2 hq2 he => ?_)
    refine z_aload_n S dX9_last_14 rfl 0 rfl ?_
    refine z_getGb (k2 := 4) S fo_RX9_20 rfl ok_1 (by decide) he dX9_last_15 (fun q3 hq3 he => ?_)
    obtain ⟨M4, h9, he⟩ := bnd he
    refine z_cVV (As := [.ref (X.2.2 q3)]) S cv_RX9_93 (K_X4_copyFrom (okk4 hq2) (okk4 hq3) h9) (okk4 hq2) (by decide) (q := (RX4, TX4, 10)) rfl rfl ⟨rfl, rfl⟩ ⟨Nat.le_of_ble_eq_true rfl, Nat.le_of_ble_eq_true rfl⟩ ⟨Nat.le_of_ble_eq_true rfl, Nat.le_of_ble_eq_true rfl⟩ rfl rfl (Nat.le_of_ble_eq_true rfl) dX9_last_18 ?_
    refine z_iconst (v := 1) S dX9_last_21 (by decide) ?_
    refine z_istore (lv' := [(0, .ref (X.2.2 1)), (1, .int a1), (2, .int a2), (3, .int (-1)), (4, .int 0), (5, .int 1)]) S [1, 2, 3, 4, 5, 0] dX9_last_22 (by decide) rfl ?_
    obtain ⟨e_9, hl, he⟩ := bnd he
    have hX : Z X 0 p l e rm_X9_last s m args below meth c 1 6 (vx_MQ below (QXI X 0 rx s.heap.size) (XCX X 0 rx s.heap.size) args s 1 6 (AA X 0 s.heap.size)) 6 e_9.1 83 [(2, .int a2), (3, .int e_9.2.1), (4, .int e_9.2.2)] [] := by
      refine z_iload_n S dX9_last_83 rfl 0 rfl ?_
      refine z_if_eq (tgt := 92) S he dX9_last_84 (by decide) (fun he => ?_) (fun he => ?_)
      · refine z_iload_n S dX9_last_92 rfl 1 rfl ?_
        exact z_xiret S (Option.some.inj he) (by decide) (by decide) dX9_last_93
      · refine z_iload S dX9_last_87 2 rfl ?_
        refine z_goto (tgt := 93) S dX9_last_89 (by decide) ?_
        exact z_xiret S (Option.some.inj he) (by decide) (by decide) dX9_last_93
    have hZ9 := loopZ (f := (fun a_9 => f_X9_last_L24 a_9.1 a1 a2 a_9.2.1 a_9.2.2.1 a_9.2.2.2)) (Zh := (fun a_9 => Z X 0 p l e rm_X9_last s m args below meth c 1 6 (vx_MQ below (QXI X 0 rx s.heap.size) (XCX X 0 rx s.heap.size) args s 1 6 (AA X 0 s.heap.size)) 6 a_9.1 24 [(0, .ref (X.2.2 1)), (1, .int a1), (2, .int a2), (3, .int a_9.2.1), (4, .int a_9.2.2.1), (5, .int a_9.2.2.2)] [])) (fun a_9 x hb hc hr => p_X9_last_L24 hl0 T0 S  hb hc (fun b hxe => by rw [hr b hxe]; exact hX)) FU (M4, (-1), 0, 1) hl
    exact hZ9
set_option maxRecDepth 100000 in
set_option maxHeartbeats 4000000 in
theorem K_X9_law {X : Cx} {l : Launch} (hl0 : l.stackTraces = false) {M : Mm} {rx : ((Int32 × Mm) ⊕ (Nat × Mm))}  (he : f_X9_law M  = some rx) : KXI X 0 l yX9_law (wz yX9_law cX9_law 3 (some .int)) rm_X9_law 1 6 [.ref (X.2.2 1)] M rx := by
  intro sz
  refine KX_of (Qc := fun sz => QXI X 0 rx sz) (XC := fun sz => XCX X 0 rx sz) (own := RX9) (lv0 := [(0, .ref (X.2.2 1))]) (by decide +kernel) rfl (Nat.le_of_ble_eq_true rfl) rfl (fun p e s m args below meth c S T0 => ?_) sz
  · unfold f_X9_law at he
    refine z_aload_n S dX9_law_0 rfl 0 rfl ?_
    refine z_getF (j := 102) S fo_RX9_78 101 rfl rfl ok_1 dX9_law_1 ?_
    refine z_aload_n S dX9_law_4 rfl 0 rfl ?_
    refine z_getGb (k2 := 2) S fo_RX9_34 rfl ok_1 (by decide) he dX9_law_5 (fun q1 hq1 he => ?_)
    refine z_aload_n S dX9_law_8 rfl 0 rfl ?_
    refine z_getF (j := 2) S fo_RX9_9 1 rfl rfl ok_1 dX9_law_9 ?_
    refine z_aload_n S dX9_law_12 rfl 0 rfl ?_
    obtain ⟨⟨r2, M3⟩, h9, he⟩ := bnd he
    dsimp only at he
    refine z_cVI (As := []) S cv_RX9_97 (K_X9_useTapeUp  (Option.some.inj h9)) ok_1 (by decide) (q := (RX9, TX9, 17)) rfl rfl ⟨rfl, rfl⟩ ⟨Nat.le_of_ble_eq_true rfl, Nat.le_of_ble_eq_true rfl⟩ ⟨Nat.le_of_ble_eq_true rfl, Nat.le_of_ble_eq_true rfl⟩ rfl rfl (Nat.le_of_ble_eq_true rfl) dX9_law_13 ?_
    obtain ⟨⟨r4, M5⟩, h9, he⟩ := bnd he
    dsimp only at he
    refine z_cVI (As := [.ref (X.2.2 q1), .ref (X.2.2 2), .int r2]) S cv_RX9_132 (K_X3_readInto (okk2 hq1) ok_2 h9) ok_102 (by decide) (q := (RX3, TX3, 4)) rfl rfl ⟨rfl, rfl⟩ ⟨Nat.le_of_ble_eq_true rfl, Nat.le_of_ble_eq_true rfl⟩ ⟨Nat.le_of_ble_eq_true rfl, Nat.le_of_ble_eq_true rfl⟩ rfl rfl (Nat.le_of_ble_eq_true rfl) dX9_law_16 ?_
    refine z_istore_n (lv' := [(0, .ref (X.2.2 1)), (1, .int (bI r4))]) S [1, 0] dX9_law_19 rfl (by decide) rfl ?_
    refine z_aload_n S dX9_law_20 rfl 0 rfl ?_
    refine z_aload_n S dX9_law_21 rfl 0 rfl ?_
    refine z_getF (j := 102) S fo_RX9_78 101 rfl rfl ok_1 dX9_law_22 ?_
    refine z_getF (j := 104) S fo_RX9_135 2 rfl rfl ok_102 dX9_law_25 ?_
    refine z_getI S fo_RX9_109 rfl ok_104 dX9_law_28 ?_
    refine z_putIb S fo_RX9_13p rfl ok_1 rfl rfl he dX9_law_31 (fun M6 he => ?_)
    refine z_iload_n S dX9_law_34 rfl 1 rfl ?_
    refine z_ifb_ne (tgt := 48) S he dX9_law_35 (by decide) (fun he => ?_) (fun he => ?_)
    · refine z_aload_n S dX9_law_48 rfl 0 rfl ?_
      refine z_getGb (k2 := 2) S fo_RX9_30 rfl ok_1 (by decide) he dX9_law_49 (fun q7 hq7 he => ?_)
      refine z_astore_n (lv' := [(0, .ref (X.2.2 1)), (2, .ref (X.2.2 q7))]) S [1, 0] dX9_law_52 rfl (by decide) rfl ?_
      refine z_aload_n S dX9_law_53 rfl 0 rfl ?_
      refine z_aload_n S dX9_law_54 rfl 0 rfl ?_
      refine z_getGb (k2 := 2) S fo_RX9_34 rfl ok_1 (by decide) he dX9_law_55 (fun q8 hq8 he => ?_)
      refine z_putRb S fo_RX9_30p rfl ok_1 (OK_ne (okk2 hq8)) he dX9_law_58 (fun M9 he => ?_)
      refine z_aload_n S dX9_law_61 rfl 0 rfl ?_
      refine z_aload_n S dX9_law_62 rfl 1 rfl ?_
      refine z_putRb S fo_RX9_34p rfl ok_1 (OK_ne (okk2 hq7)) he dX9_law_63 (fun M10 he => ?_)
      refine z_aload_n S dX9_law_66 rfl 0 rfl ?_
      refine z_iconst (v := 0) S dX9_law_67 (by decide) ?_
      refine z_putIb S fo_RX9_129p rfl ok_1 rfl rfl he dX9_law_68 (fun M11 he => ?_)
      refine z_aload_n S dX9_law_71 rfl 0 rfl ?_
      refine z_getGb (k2 := 2) S fo_RX9_30 rfl ok_1 (by decide) he dX9_law_72 (fun q12 hq12 he => ?_)
      refine z_getI S fo_RX9_136 rfl (okk2 hq12) dX9_law_75 ?_
      exact z_xiret S (Option.some.inj he) (by decide) (by decide) dX9_law_78
    · exact z_throw S hl0 T0 tx_RX9_114_116_118 (k := 1) rfl (Option.some.inj he) dX9_law_38 dX9_law_41 dX9_law_42 dX9_law_44 dX9_law_47 (Nat.le_of_ble_eq_true rfl) (Nat.le_of_ble_eq_true rfl) (Nat.le_of_ble_eq_true rfl) (Nat.le_of_ble_eq_true rfl) (by decide) (by decide)
set_option maxRecDepth 100000 in
set_option maxHeartbeats 4000000 in
theorem p_X9_led_L16 {X : Cx} {p : Program} {l : Launch} {e : Env} {s : State} {m : MethodId} {args : Array Value} {below : List Frame} {meth : Method} {c : Code} (hl0 : l.stackTraces = false) (T0 : ∀ x ∈ c.exceptionTable.toList, False) (S : SB X 0 p s m args meth c cX9_led 8 (some .int) RX9) {M : Mm} {rx : ((Int32 × Mm) ⊕ (Nat × Mm))} {v1 : Int32} {v2 : Int32} {v3 : Int32} {v4 : Int32} {v5 : Int32} {v6 : Int32} {x : (Int32 × Int32 × Int32 × Int32) ⊕ (Int32 × Int32)}  (he : f_X9_led_L16 M v1 v2 v3 v4 v5 v6 = some x) (hc : ∀ b, x = .inl b → Z X 0 p l e rm_X9_led s m args below meth c 1 6 (vx_MQ below (QXI X 0 rx s.heap.size) (XCX X 0 rx s.heap.size) args s 1 6 (AA X 0 s.heap.size)) 8 M 16 [(0, .ref (X.2.2 1)), (1, .int v1), (2, .int v2), (3, .int b.1), (4, .int b.2.1), (5, .int b.2.2.1), (6, .int b.2.2.2)] []) (hx : ∀ b, x = .inr b → Z X 0 p l e rm_X9_led s m args below meth c 1 6 (vx_MQ below (QXI X 0 rx s.heap.size) (XCX X 0 rx s.heap.size) args s 1 6 (AA X 0 s.heap.size)) 8 M 61 [(2, .int v2), (3, .int b.1), (4, .int b.2)] []) : Z X 0 p l e rm_X9_led s m args below meth c 1 6 (vx_MQ below (QXI X 0 rx s.heap.size) (XCX X 0 rx s.heap.size) args s 1 6 (AA X 0 s.heap.size)) 8 M 16 [(0, .ref (X.2.2 1)), (1, .int v1), (2, .int v2), (3, .int v3), (4, .int v4), (5, .int v5), (6, .int v6)] [] := by
  unfold f_X9_led_L16 at he
  refine z_iload S dX9_led_16 6 rfl ?_
  refine z_bipush (v := 10) S dX9_led_18 (by decide) ?_
  refine z_icmp_ge (tgt := 61) S he dX9_led_20 (by decide) (fun he => ?_) (fun he => ?_)
  · refine z_lv (ks := [2, 3, 4]) rfl ?_
    exact hx _ (Option.some.inj he).symm
  · refine z_aload_n S dX9_led_23 rfl 0 rfl ?_
    refine z_getGb (k2 := 4) S fo_RX9_20 rfl ok_1 (by decide) he dX9_led_24 (fun q2 hq2 he => ?_)
    refine z_iload S dX9_led_27 6 rfl ?_
    refine z_iload_n S dX9_led_29 rfl 1 rfl ?_
    obtain ⟨r3, h9, he⟩ := bnd he
    refine z_cVI (As := [.int v6, .int v1]) S cv_RX9_337 (K_X4_timesLed (okk4 hq2) h9) (okk4 hq2) (by decide) (q := (RX4, TX4, 10)) rfl rfl ⟨rfl, rfl⟩ ⟨Nat.le_of_ble_eq_true rfl, Nat.le_of_ble_eq_true rfl⟩ ⟨Nat.le_of_ble_eq_true rfl, Nat.le_of_ble_eq_true rfl⟩ rfl rfl (Nat.le_of_ble_eq_true rfl) dX9_led_30 ?_
    refine z_istore (lv' := [(0, .ref (X.2.2 1)), (1, .int v1), (2, .int v2), (3, .int v3), (4, .int v4), (5, .int v5), (6, .int v6), (7, .int r3)]) S [1, 2, 3, 4, 5, 6, 7, 0] dX9_led_33 (by decide) rfl ?_
    refine z_iload_n S dX9_led_35 rfl 3 rfl ?_
    refine z_iload S dX9_led_36 7 rfl ?_
    refine z_iadd S dX9_led_38 ?_
    refine z_istore_n (lv' := [(0, .ref (X.2.2 1)), (1, .int v1), (2, .int v2), (3, .int (v3 + r3)), (4, .int v4), (5, .int v5), (6, .int v6), (7, .int r3)]) S [1, 2, 3, 0, 4, 5, 6, 7] dX9_led_39 rfl (by decide) rfl ?_
    refine z_iload S dX9_led_40 7 rfl ?_
    refine z_iload S dX9_led_42 5 rfl ?_
    refine z_icmp_le (tgt := 55) S he dX9_led_44 (by decide) (fun he => ?_) (fun he => ?_)
    · refine z_iinc (v := (v6 + 1)) (lv' := [(0, .ref (X.2.2 1)), (1, .int v1), (2, .int v2), (3, .int (v3 + r3)), (4, .int v4), (5, .int v5), (6, .int (v6 + 1)), (7, .int r3)]) S [1, 2, 3, 4, 5, 6, 0, 7] 6 dX9_led_55 rfl (by rfl) (by decide) rfl ?_
      refine z_goto (tgt := 16) S dX9_led_58 (by decide) ?_
      refine z_lv (ks := [0, 1, 2, 3, 4, 5, 6]) rfl ?_
      exact hc _ (Option.some.inj he).symm
    · refine z_iload S dX9_led_47 7 rfl ?_
      refine z_istore (lv' := [(0, .ref (X.2.2 1)), (1, .int v1), (2, .int v2), (3, .int (v3 + r3)), (5, .int r3), (6, .int v6)]) S [1, 2, 3, 4, 0, 6] dX9_led_49 (by decide) rfl ?_
      refine z_iload S dX9_led_51 5 rfl ?_
      refine z_istore (lv' := [(0, .ref (X.2.2 1)), (1, .int v1), (2, .int v2), (3, .int (v3 + r3)), (4, .int v6), (5, .int r3), (6, .int v6)]) S [1, 2, 3, 4, 0, 5, 6] dX9_led_53 (by decide) rfl ?_
      refine z_iinc (v := (v6 + 1)) (lv' := [(0, .ref (X.2.2 1)), (1, .int v1), (2, .int v2), (3, .int (v3 + r3)), (4, .int v6), (5, .int r3), (6, .int (v6 + 1))]) S [1, 2, 3, 4, 5, 6, 0] 6 dX9_led_55 rfl (by rfl) (by decide) rfl ?_
      refine z_goto (tgt := 16) S dX9_led_58 (by decide) ?_
      refine z_lv (ks := [0, 1, 2, 3, 4, 5, 6]) rfl ?_
      exact hc _ (Option.some.inj he).symm
set_option maxRecDepth 100000 in
set_option maxHeartbeats 4000000 in
theorem K_X9_led {X : Cx} {l : Launch} (hl0 : l.stackTraces = false) {M : Mm} {a1 : Int32} {a2 : Int32} {rx : ((Int32 × Mm) ⊕ (Nat × Mm))}  (he : f_X9_led M a1 a2 = some rx) : KXI X 0 l yX9_led (wz yX9_led cX9_led 8 (some .int)) rm_X9_led 1 6 [.ref (X.2.2 1), .int a1, .int a2] M rx := by
  intro sz
  refine KX_of (Qc := fun sz => QXI X 0 rx sz) (XC := fun sz => XCX X 0 rx sz) (own := RX9) (lv0 := [(0, .ref (X.2.2 1)), (1, .int a1), (2, .int a2)]) (by decide +kernel) rfl (Nat.le_of_ble_eq_true rfl) rfl (fun p e s m args below meth c S T0 => ?_) sz
  · unfold f_X9_led at he
    refine z_aload_n S dX9_led_0 rfl 0 rfl ?_
    refine z_iload_n S dX9_led_1 rfl 1 rfl ?_
    obtain ⟨r9, h9, hr1, hr2⟩ := bndS he
    refine z_xVV (As := [.int a1]) S cv_RX9_139 (K_X9_needThing hl0  h9) ok_1 (by decide) (q := (RX9, TX9, 17)) rfl rfl ⟨rfl, rfl⟩ ⟨Nat.le_of_ble_eq_true rfl, Nat.le_of_ble_eq_true rfl⟩ ⟨Nat.le_of_ble_eq_true rfl, Nat.le_of_ble_eq_true rfl⟩ rfl rfl (Nat.le_of_ble_eq_true rfl) dX9_led_2 T0 (by decide) (by decide) (fun q hq => Option.some.inj (hr2 q hq)) (fun e_0 hE => ?_)
    have he := hr1 _ hE
    refine z_iconst (v := 0) S dX9_led_5 (by decide) ?_
    refine z_istore_n (lv' := [(0, .ref (X.2.2 1)), (1, .int a1), (2, .int a2), (3, .int 0)]) S [1, 2, 3, 0] dX9_led_6 rfl (by decide) rfl ?_
    refine z_iconst (v := (-1)) S dX9_led_7 (by decide) ?_
    refine z_istore (lv' := [(0, .ref (X.2.2 1)), (1, .int a1), (2, .int a2), (3, .int 0), (4, .int (-1))]) S [1, 2, 3, 4, 0] dX9_led_8 (by decide) rfl ?_
    refine z_iconst (v := 0) S dX9_led_10 (by decide) ?_
    refine z_istore (lv' := [(0, .ref (X.2.2 1)), (1, .int a1), (2, .int a2), (3, .int 0), (4, .int (-1)), (5, .int 0)]) S [1, 2, 3, 4, 5, 0] dX9_led_11 (by decide) rfl ?_
    refine z_iconst (v := 0) S dX9_led_13 (by decide) ?_
    refine z_istore (lv' := [(0, .ref (X.2.2 1)), (1, .int a1), (2, .int a2), (3, .int 0), (4, .int (-1)), (5, .int 0), (6, .int 0)]) S [1, 2, 3, 4, 5, 6, 0] dX9_led_14 (by decide) rfl ?_
    obtain ⟨e_4, hl, he⟩ := bnd he
    have hX : Z X 0 p l e rm_X9_led s m args below meth c 1 6 (vx_MQ below (QXI X 0 rx s.heap.size) (XCX X 0 rx s.heap.size) args s 1 6 (AA X 0 s.heap.size)) 8 e_0 61 [(2, .int a2), (3, .int e_4.1), (4, .int e_4.2)] [] := by
      refine z_iload_n S dX9_led_61 rfl 0 rfl ?_
      refine z_if_eq (tgt := 70) S he dX9_led_62 (by decide) (fun he => ?_) (fun he => ?_)
      · refine z_iload_n S dX9_led_70 rfl 1 rfl ?_
        exact z_xiret S (Option.some.inj he) (by decide) (by decide) dX9_led_71
      · refine z_iload S dX9_led_65 2 rfl ?_
        refine z_goto (tgt := 71) S dX9_led_67 (by decide) ?_
        exact z_xiret S (Option.some.inj he) (by decide) (by decide) dX9_led_71
    have hZ9 := loopZ (f := (fun a_4 => f_X9_led_L16 e_0 a1 a2 a_4.1 a_4.2.1 a_4.2.2.1 a_4.2.2.2)) (Zh := (fun a_4 => Z X 0 p l e rm_X9_led s m args below meth c 1 6 (vx_MQ below (QXI X 0 rx s.heap.size) (XCX X 0 rx s.heap.size) args s 1 6 (AA X 0 s.heap.size)) 8 e_0 16 [(0, .ref (X.2.2 1)), (1, .int a1), (2, .int a2), (3, .int a_4.1), (4, .int a_4.2.1), (5, .int a_4.2.2.1), (6, .int a_4.2.2.2)] [])) (fun a_4 x hb hc hr => p_X9_led_L16 hl0 T0 S  hb hc (fun b hxe => by rw [hr b hxe]; exact hX)) FU (0, (-1), 0, 0) hl
    exact hZ9
set_option maxRecDepth 100000 in
set_option maxHeartbeats 4000000 in
theorem K_X9_liking {X : Cx} {l : Launch} (hl0 : l.stackTraces = false) {M : Mm} {a1 : Int32} {a2 : Int32} {rx : ((Int32 × Mm) ⊕ (Nat × Mm))}  (he : f_X9_liking M a1 a2 = some rx) : KXI X 0 l yX9_liking (wz yX9_liking cX9_liking 3 (some .int)) rm_X9_liking 2 12 [.ref (X.2.2 1), .int a1, .int a2] M rx := by
  intro sz
  refine KX_of (Qc := fun sz => QXI X 0 rx sz) (XC := fun sz => XCX X 0 rx sz) (own := RX9) (lv0 := [(0, .ref (X.2.2 1)), (1, .int a1), (2, .int a2)]) (by decide +kernel) rfl (Nat.le_of_ble_eq_true rfl) rfl (fun p e s m args below meth c S T0 => ?_) sz
  · unfold f_X9_liking at he
    refine z_aload_n S dX9_liking_0 rfl 0 rfl ?_
    refine z_iload_n S dX9_liking_1 rfl 1 rfl ?_
    obtain ⟨r9, h9, hr1, hr2⟩ := bndS he
    refine z_xVV (As := [.int a1]) S cv_RX9_139 (K_X9_needThing hl0  h9) ok_1 (by decide) (q := (RX9, TX9, 17)) rfl rfl ⟨rfl, rfl⟩ ⟨Nat.le_of_ble_eq_true rfl, Nat.le_of_ble_eq_true rfl⟩ ⟨Nat.le_of_ble_eq_true rfl, Nat.le_of_ble_eq_true rfl⟩ rfl rfl (Nat.le_of_ble_eq_true rfl) dX9_liking_2 T0 (by decide) (by decide) (fun q hq => Option.some.inj (hr2 q hq)) (fun e_0 hE => ?_)
    have he := hr1 _ hE
    refine z_aload_n S dX9_liking_5 rfl 0 rfl ?_
    refine z_iload_n S dX9_liking_6 rfl 2 rfl ?_
    obtain ⟨r9, h9, hr1, hr2⟩ := bndS he
    refine z_xVV (As := [.int a2]) S cv_RX9_169 (K_X9_needVisitor hl0  h9) ok_1 (by decide) (q := (RX9, TX9, 17)) rfl rfl ⟨rfl, rfl⟩ ⟨Nat.le_of_ble_eq_true rfl, Nat.le_of_ble_eq_true rfl⟩ ⟨Nat.le_of_ble_eq_true rfl, Nat.le_of_ble_eq_true rfl⟩ rfl rfl (Nat.le_of_ble_eq_true rfl) dX9_liking_7 T0 (by decide) (by decide) (fun q hq => Option.some.inj (hr2 q hq)) (fun e_1 hE => ?_)
    have he := hr1 _ hE
    refine z_aload_n S dX9_liking_10 rfl 0 rfl ?_
    refine z_getGb (k2 := 2) S fo_RX9_30 rfl ok_1 (by decide) he dX9_liking_11 (fun q3 hq3 he => ?_)
    refine z_aload_n S dX9_liking_14 rfl 0 rfl ?_
    refine z_getGb (k2 := 4) S fo_RX9_20 rfl ok_1 (by decide) he dX9_liking_15 (fun q4 hq4 he => ?_)
    refine z_iload_n S dX9_liking_18 rfl 1 rfl ?_
    refine z_iload_n S dX9_liking_19 rfl 2 rfl ?_
    obtain ⟨⟨r5, M6⟩, h9, he⟩ := bnd he
    dsimp only at he
    refine z_cVI (As := [.ref (X.2.2 q4), .int a1, .int a2]) S cv_RX9_187 (K_X2_weighs (okk2 hq3) (okk4 hq4) h9) (okk2 hq3) (by decide) (q := (RX2, TX2, 7)) rfl rfl ⟨rfl, rfl⟩ ⟨Nat.le_of_ble_eq_true rfl, Nat.le_of_ble_eq_true rfl⟩ ⟨Nat.le_of_ble_eq_true rfl, Nat.le_of_ble_eq_true rfl⟩ rfl rfl (Nat.le_of_ble_eq_true rfl) dX9_liking_20 ?_
    exact z_xiret S (Option.some.inj he) (by decide) (by decide) dX9_liking_23
set_option maxRecDepth 100000 in
set_option maxHeartbeats 4000000 in
theorem p_X9_log_J9 {X : Cx} {p : Program} {l : Launch} {e : Env} {s : State} {m : MethodId} {args : Array Value} {below : List Frame} {meth : Method} {c : Code} (hl0 : l.stackTraces = false) (T0 : ∀ x ∈ c.exceptionTable.toList, False) (S : SB X 0 p s m args meth c cX9_log 3 (some .int) RX9) {M : Mm} {rx : ((Int32 × Mm) ⊕ (Nat × Mm))}  (he : f_X9_log_J9 M  = some rx) : Z X 0 p l e rm_X9_log s m args below meth c 0 0 (vx_MQ below (QXI X 0 rx s.heap.size) (XCX X 0 rx s.heap.size) args s 1 6 (AA X 0 s.heap.size)) 3 M 9 [] [] := by
  unfold f_X9_log_J9 at he
  exact z_throwNW S hl0 T0 tx_RX9_142_340_146 (k := 4) rfl (Option.some.inj he) dX9_log_9 dX9_log_12 dX9_log_13 dX9_log_16 dX9_log_19 (Nat.le_of_ble_eq_true rfl) (Nat.le_of_ble_eq_true rfl) (Nat.le_of_ble_eq_true rfl) (Nat.le_of_ble_eq_true rfl) (by decide) (by decide)
set_option maxRecDepth 100000 in
set_option maxHeartbeats 4000000 in
theorem p_X9_log_J35 {X : Cx} {p : Program} {l : Launch} {e : Env} {s : State} {m : MethodId} {args : Array Value} {below : List Frame} {meth : Method} {c : Code} (hl0 : l.stackTraces = false) (T0 : ∀ x ∈ c.exceptionTable.toList, False) (S : SB X 0 p s m args meth c cX9_log 3 (some .int) RX9) {M : Mm} {rx : ((Int32 × Mm) ⊕ (Nat × Mm))}  (he : f_X9_log_J35 M  = some rx) : Z X 0 p l e rm_X9_log s m args below meth c 0 0 (vx_MQ below (QXI X 0 rx s.heap.size) (XCX X 0 rx s.heap.size) args s 1 6 (AA X 0 s.heap.size)) 3 M 35 [] [] := by
  unfold f_X9_log_J35 at he
  refine z_iconst (v := (-1)) S dX9_log_35 (by decide) ?_
  refine z_goto (tgt := 48) S dX9_log_36 (by decide) ?_
  exact z_xiret S (Option.some.inj he) (by decide) (by decide) dX9_log_48
set_option maxRecDepth 100000 in
set_option maxHeartbeats 4000000 in
theorem K_X9_log {X : Cx} {l : Launch} (hl0 : l.stackTraces = false) {M : Mm} {a1 : Int32} {a2 : Int32} {rx : ((Int32 × Mm) ⊕ (Nat × Mm))}  (he : f_X9_log M a1 a2 = some rx) : KXI X 0 l yX9_log (wz yX9_log cX9_log 3 (some .int)) rm_X9_log 1 6 [.ref (X.2.2 1), .int a1, .int a2] M rx := by
  intro sz
  refine KX_of (Qc := fun sz => QXI X 0 rx sz) (XC := fun sz => XCX X 0 rx sz) (own := RX9) (lv0 := [(0, .ref (X.2.2 1)), (1, .int a1), (2, .int a2)]) (by decide +kernel) rfl (Nat.le_of_ble_eq_true rfl) rfl (fun p e s m args below meth c S T0 => ?_) sz
  · unfold f_X9_log at he
    refine z_iload_n S dX9_log_0 rfl 2 rfl ?_
    refine z_if_lt (tgt := 9) S he dX9_log_1 (by decide) (fun he => ?_) (fun he => ?_)
    · refine z_lv (ks := []) rfl ?_
      exact p_X9_log_J9 hl0 T0 S  he
    · refine z_iload_n S dX9_log_4 rfl 2 rfl ?_
      refine z_iconst (v := 5) S dX9_log_5 (by decide) ?_
      refine z_icmp_lt (tgt := 20) S he dX9_log_6 (by decide) (fun he => ?_) (fun he => ?_)
      · refine z_iload_n S dX9_log_20 rfl 1 rfl ?_
        refine z_if_lt (tgt := 35) S he dX9_log_21 (by decide) (fun he => ?_) (fun he => ?_)
        · refine z_lv (ks := []) rfl ?_
          exact p_X9_log_J35 hl0 T0 S  he
        · refine z_iload_n S dX9_log_24 rfl 1 rfl ?_
          refine z_aload_n S dX9_log_25 rfl 0 rfl ?_
          refine z_getGb (k2 := 4) S fo_RX9_20 rfl ok_1 (by decide) he dX9_log_26 (fun q1 hq1 he => ?_)
          refine z_cVI (As := []) S cv_RX9_342 (K_X4_logRows (okk4 hq1) rfl) (okk4 hq1) (by decide) (q := (RX4, TX4, 10)) rfl rfl ⟨rfl, rfl⟩ ⟨Nat.le_of_ble_eq_true rfl, Nat.le_of_ble_eq_true rfl⟩ ⟨Nat.le_of_ble_eq_true rfl, Nat.le_of_ble_eq_true rfl⟩ rfl rfl (Nat.le_of_ble_eq_true rfl) dX9_log_29 ?_
          refine z_icmp_lt (tgt := 39) S he dX9_log_32 (by decide) (fun he => ?_) (fun he => ?_)
          · refine z_aload_n S dX9_log_39 rfl 0 rfl ?_
            refine z_getGb (k2 := 4) S fo_RX9_20 rfl ok_1 (by decide) he dX9_log_40 (fun q2 hq2 he => ?_)
            refine z_iload_n S dX9_log_43 rfl 1 rfl ?_
            refine z_iload_n S dX9_log_44 rfl 2 rfl ?_
            refine z_cVI (As := [.int a1, .int a2]) S cv_RX9_345 (K_X4_logged (okk4 hq2) rfl) (okk4 hq2) (by decide) (q := (RX4, TX4, 10)) rfl rfl ⟨rfl, rfl⟩ ⟨Nat.le_of_ble_eq_true rfl, Nat.le_of_ble_eq_true rfl⟩ ⟨Nat.le_of_ble_eq_true rfl, Nat.le_of_ble_eq_true rfl⟩ rfl rfl (Nat.le_of_ble_eq_true rfl) dX9_log_45 ?_
            exact z_xiret S (Option.some.inj he) (by decide) (by decide) dX9_log_48
          · refine z_lv (ks := []) rfl ?_
            exact p_X9_log_J35 hl0 T0 S  he
      · refine z_lv (ks := []) rfl ?_
        exact p_X9_log_J9 hl0 T0 S  he
set_option maxRecDepth 100000 in
set_option maxHeartbeats 4000000 in
theorem p_X9_mark_J15 {X : Cx} {p : Program} {l : Launch} {e : Env} {s : State} {m : MethodId} {args : Array Value} {below : List Frame} {meth : Method} {c : Code} (hl0 : l.stackTraces = false) (T0 : ∀ x ∈ c.exceptionTable.toList, False) (S : SB X 0 p s m args meth c cX9_mark 6 (some .boolean) RX9) {M : Mm} {rx : ((Bool × Mm) ⊕ (Nat × Mm))}  (he : f_X9_mark_J15 M  = some rx) : Z X 0 p l e rm_X9_mark s m args below meth c 1 6 (vx_MQ below (QXZ X 0 rx s.heap.size) (XCX X 0 rx s.heap.size) args s 2 12 (AA X 0 s.heap.size)) 6 M 15 [] [] := by
  unfold f_X9_mark_J15 at he
  exact z_throw S hl0 T0 tx_RX9_226_228_230 (k := 2) rfl (Option.some.inj he) dX9_mark_15 dX9_mark_18 dX9_mark_19 dX9_mark_21 dX9_mark_24 (Nat.le_of_ble_eq_true rfl) (Nat.le_of_ble_eq_true rfl) (Nat.le_of_ble_eq_true rfl) (Nat.le_of_ble_eq_true rfl) (by decide) (by decide)
set_option maxRecDepth 100000 in
set_option maxHeartbeats 4000000 in
theorem p_X9_mark_J61 {X : Cx} {p : Program} {l : Launch} {e : Env} {s : State} {m : MethodId} {args : Array Value} {below : List Frame} {meth : Method} {c : Code} (hl0 : l.stackTraces = false) (T0 : ∀ x ∈ c.exceptionTable.toList, False) (S : SB X 0 p s m args meth c cX9_mark 6 (some .boolean) RX9) {M : Mm} {rx : ((Bool × Mm) ⊕ (Nat × Mm))} {v1 : Int32} {v4 : Int32} {t0 : Int32}  (he : f_X9_mark_J61 M v1 v4 t0 = some rx) : Z X 0 p l e rm_X9_mark s m args below meth c 1 6 (vx_MQ below (QXZ X 0 rx s.heap.size) (XCX X 0 rx s.heap.size) args s 2 12 (AA X 0 s.heap.size)) 6 M 61 [(0, .ref (X.2.2 1)), (1, .int v1), (4, .int v4)] [.int t0] := by
  unfold f_X9_mark_J61 at he
  refine z_istore (lv' := [(0, .ref (X.2.2 1)), (1, .int v1), (4, .int v4), (5, .int t0)]) S [1, 2, 3, 0] dX9_mark_61 (by decide) rfl ?_
  refine z_aload_n S dX9_mark_63 rfl 0 rfl ?_
  refine z_getGb (k2 := 4) S fo_RX9_20 rfl ok_1 (by decide) he dX9_mark_64 (fun q5 hq5 he => ?_)
  refine z_iload_n S dX9_mark_67 rfl 1 rfl ?_
  refine z_iconst (v := 4) S dX9_mark_68 (by decide) ?_
  refine z_iload S dX9_mark_69 3 rfl ?_
  obtain ⟨M6, h9, he⟩ := bnd he
  refine z_cVV (As := [.int v1, .int 4, .int t0]) S cv_RX9_223 (K_X4_setVisitor (okk4 hq5) (Option.some.inj h9)) (okk4 hq5) (by decide) (q := (RX4, TX4, 10)) rfl rfl ⟨rfl, rfl⟩ ⟨Nat.le_of_ble_eq_true rfl, Nat.le_of_ble_eq_true rfl⟩ ⟨Nat.le_of_ble_eq_true rfl, Nat.le_of_ble_eq_true rfl⟩ rfl rfl (Nat.le_of_ble_eq_true rfl) dX9_mark_71 ?_
  refine z_iload S dX9_mark_74 3 rfl ?_
  refine z_iload S dX9_mark_76 2 rfl ?_
  refine z_icmp_eq (tgt := 85) S he dX9_mark_78 (by decide) (fun he => ?_) (fun he => ?_)
  · refine z_iconst (v := 0) S dX9_mark_85 (by decide) ?_
    exact z_xzret0 S (Option.some.inj he) (by decide) (by decide) dX9_mark_86
  · refine z_iconst (v := 1) S dX9_mark_81 (by decide) ?_
    refine z_goto (tgt := 86) S dX9_mark_82 (by decide) ?_
    exact z_xzret1 S (Option.some.inj he) (by decide) (by decide) dX9_mark_86
set_option maxRecDepth 100000 in
set_option maxHeartbeats 4000000 in
theorem K_X9_mark {X : Cx} {l : Launch} (hl0 : l.stackTraces = false) {M : Mm} {a1 : Int32} {a2 : Int32} {a3 : Int32} {rx : ((Bool × Mm) ⊕ (Nat × Mm))}  (he : f_X9_mark M a1 a2 a3 = some rx) : KXZ X 0 l yX9_mark (wz yX9_mark cX9_mark 6 (some .boolean)) rm_X9_mark 2 12 [.ref (X.2.2 1), .int a1, .int a2, .int a3] M rx := by
  intro sz
  refine KX_of (Qc := fun sz => QXZ X 0 rx sz) (XC := fun sz => XCX X 0 rx sz) (own := RX9) (lv0 := [(0, .ref (X.2.2 1)), (1, .int a1), (2, .int a2), (3, .int a3)]) (by decide +kernel) rfl (Nat.le_of_ble_eq_true rfl) rfl (fun p e s m args below meth c S T0 => ?_) sz
  · unfold f_X9_mark at he
    refine z_aload_n S dX9_mark_0 rfl 0 rfl ?_
    refine z_iload_n S dX9_mark_1 rfl 1 rfl ?_
    obtain ⟨r9, h9, hr1, hr2⟩ := bndS he
    refine z_xVV (As := [.int a1]) S cv_RX9_169 (K_X9_needVisitor hl0  h9) ok_1 (by decide) (q := (RX9, TX9, 17)) rfl rfl ⟨rfl, rfl⟩ ⟨Nat.le_of_ble_eq_true rfl, Nat.le_of_ble_eq_true rfl⟩ ⟨Nat.le_of_ble_eq_true rfl, Nat.le_of_ble_eq_true rfl⟩ rfl rfl (Nat.le_of_ble_eq_true rfl) dX9_mark_2 T0 (by decide) (by decide) (fun q hq => Option.some.inj (hr2 q hq)) (fun e_0 hE => ?_)
    have he := hr1 _ hE
    refine z_iload_n S dX9_mark_5 rfl 2 rfl ?_
    refine z_if_lt (tgt := 15) S he dX9_mark_6 (by decide) (fun he => ?_) (fun he => ?_)
    · refine z_lv (ks := []) rfl ?_
      exact p_X9_mark_J15 hl0 T0 S  he
    · refine z_iload_n S dX9_mark_9 rfl 2 rfl ?_
      refine z_bipush (v := 6) S dX9_mark_10 (by decide) ?_
      refine z_icmp_lt (tgt := 25) S he dX9_mark_12 (by decide) (fun he => ?_) (fun he => ?_)
      · refine z_aload_n S dX9_mark_25 rfl 0 rfl ?_
        obtain ⟨M2, h9, he⟩ := bnd he
        refine z_cVV (As := []) S cv_RX9_209 (K_X9_remember  h9) ok_1 (by decide) (q := (RX9, TX9, 17)) rfl rfl ⟨rfl, rfl⟩ ⟨Nat.le_of_ble_eq_true rfl, Nat.le_of_ble_eq_true rfl⟩ ⟨Nat.le_of_ble_eq_true rfl, Nat.le_of_ble_eq_true rfl⟩ rfl rfl (Nat.le_of_ble_eq_true rfl) dX9_mark_26 ?_
        refine z_aload_n S dX9_mark_29 rfl 0 rfl ?_
        refine z_getGb (k2 := 4) S fo_RX9_20 rfl ok_1 (by decide) he dX9_mark_30 (fun q3 hq3 he => ?_)
        refine z_iload_n S dX9_mark_33 rfl 1 rfl ?_
        refine z_iconst (v := 4) S dX9_mark_34 (by decide) ?_
        refine z_cVI (As := [.int a1, .int 4]) S cv_RX9_174 (K_X4_ofVisitor (okk4 hq3) rfl) (okk4 hq3) (by decide) (q := (RX4, TX4, 10)) rfl rfl ⟨rfl, rfl⟩ ⟨Nat.le_of_ble_eq_true rfl, Nat.le_of_ble_eq_true rfl⟩ ⟨Nat.le_of_ble_eq_true rfl, Nat.le_of_ble_eq_true rfl⟩ rfl rfl (Nat.le_of_ble_eq_true rfl) dX9_mark_35 ?_
        obtain ⟨x4, ex4, he⟩ := bnd he
        rw [Option.some.inj ex4]
        refine z_istore (lv' := [(0, .ref (X.2.2 1)), (1, .int a1), (2, .int a2), (3, .int a3), (4, .int x4)]) S [1, 2, 3, 4, 0] dX9_mark_38 (by decide) rfl ?_
        refine z_iload_n S dX9_mark_40 rfl 3 rfl ?_
        refine z_if_eq (tgt := 53) S he dX9_mark_41 (by decide) (fun he => ?_) (fun he => ?_)
        · refine z_iload S dX9_mark_53 4 rfl ?_
          refine z_iconst (v := 1) S dX9_mark_55 (by decide) ?_
          refine z_iload_n S dX9_mark_56 rfl 2 rfl ?_
          refine z_ishl S dX9_mark_57 ?_
          refine z_iconst (v := (-1)) S dX9_mark_58 (by decide) ?_
          refine z_ixor S dX9_mark_59 ?_
          refine z_iand S dX9_mark_60 ?_
          refine z_lv (ks := [0, 1, 4]) rfl ?_
          exact p_X9_mark_J61 hl0 T0 S  he
        · refine z_iload S dX9_mark_44 4 rfl ?_
          refine z_iconst (v := 1) S dX9_mark_46 (by decide) ?_
          refine z_iload_n S dX9_mark_47 rfl 2 rfl ?_
          refine z_ishl S dX9_mark_48 ?_
          refine z_ior S dX9_mark_49 ?_
          refine z_goto (tgt := 61) S dX9_mark_50 (by decide) ?_
          refine z_lv (ks := [0, 1, 4]) rfl ?_
          exact p_X9_mark_J61 hl0 T0 S  he
      · refine z_lv (ks := []) rfl ?_
        exact p_X9_mark_J15 hl0 T0 S  he
set_option maxRecDepth 100000 in
set_option maxHeartbeats 4000000 in
theorem K_X9_most {X : Cx} {l : Launch} {M : Mm} {r : Int32} {N : Mm}  (he : f_X9_most M  = some (r, N)) : KI X 0 l yX9_most (wz yX9_most cX9_most 1 (some .int)) rm_X9_most [.ref (X.2.2 1)] M r N := by
  intro sz
  refine K_of (Qc := (fun sz => QI X 0 r N sz)) (own := RX9) (lv0 := [(0, .ref (X.2.2 1))]) (by decide +kernel) rfl (Nat.le_of_ble_eq_true rfl) rfl (fun p e s m args below meth c S => ?_) sz
  · unfold f_X9_most at he
    refine z_aload_n S dX9_most_0 rfl 0 rfl ?_
    obtain ⟨M1, h9, he⟩ := bnd he
    refine z_cVV (As := []) S cv_RX9_252 (K_X9_pairUp  h9) ok_1 (by decide) (q := (RX9, TX9, 17)) rfl rfl ⟨rfl, rfl⟩ ⟨Nat.le_of_ble_eq_true rfl, Nat.le_of_ble_eq_true rfl⟩ ⟨Nat.le_refl _, Nat.le_refl _⟩ rfl rfl (Nat.le_of_ble_eq_true rfl) dX9_most_1 ?_
    refine z_aload_n S dX9_most_4 rfl 0 rfl ?_
    refine z_getF (j := 87) S fo_RX9_57 86 rfl rfl ok_1 dX9_most_5 ?_
    obtain ⟨r2, h9, he⟩ := bnd he
    refine z_cVI (As := []) S cv_RX9_255 (K_X5_mostAtOnce  h9) ok_87 (by decide) (q := (RX5, TX5, 5)) rfl rfl ⟨rfl, rfl⟩ ⟨Nat.le_of_ble_eq_true rfl, Nat.le_of_ble_eq_true rfl⟩ ⟨Nat.le_refl _, Nat.le_refl _⟩ rfl rfl (Nat.le_of_ble_eq_true rfl) dX9_most_8 ?_
    exact z_iret S (Prod.mk.inj (Option.some.inj he)) dX9_most_11
set_option maxRecDepth 100000 in
set_option maxHeartbeats 4000000 in
theorem p_X9_needCell_J10 {X : Cx} {p : Program} {l : Launch} {e : Env} {s : State} {m : MethodId} {args : Array Value} {below : List Frame} {meth : Method} {c : Code} (hl0 : l.stackTraces = false) (T0 : ∀ x ∈ c.exceptionTable.toList, False) (S : SB X 0 p s m args meth c cX9_needCell 1 none RX9) {M : Mm} {rx : (Mm ⊕ (Nat × Mm))}  (he : f_X9_needCell_J10 M  = some rx) : Z X 0 p l e rm_X9_needCell s m args below meth c 0 0 (vx_MQ below (QXV X 0 rx s.heap.size) (XCX X 0 rx s.heap.size) args s 1 6 (AA X 0 s.heap.size)) 1 M 10 [] [] := by
  unfold f_X9_needCell_J10 at he
  exact z_throwW S hl0 T0 tx_RX9_226_374_230 (k := 2) rfl (Option.some.inj he) dX9_needCell_10 dX9_needCell_13 dX9_needCell_14 dX9_needCell_17 dX9_needCell_20 (Nat.le_of_ble_eq_true rfl) (Nat.le_of_ble_eq_true rfl) (Nat.le_of_ble_eq_true rfl) (Nat.le_of_ble_eq_true rfl) (by decide) (by decide)
set_option maxRecDepth 100000 in
set_option maxHeartbeats 4000000 in
theorem K_X9_needCell {X : Cx} {l : Launch} (hl0 : l.stackTraces = false) {M : Mm} {a0 : Int32} {rx : (Mm ⊕ (Nat × Mm))}  (he : f_X9_needCell M a0 = some rx) : KXV X 0 l yX9_needCell (wz yX9_needCell cX9_needCell 1 none) rm_X9_needCell 1 6 [.int a0] M rx := by
  intro sz
  refine KX_of (Qc := fun sz => QXV X 0 rx sz) (XC := fun sz => XCX X 0 rx sz) (own := RX9) (lv0 := [(0, .int a0)]) (by decide +kernel) rfl (Nat.le_of_ble_eq_true rfl) rfl (fun p e s m args below meth c S T0 => ?_) sz
  · unfold f_X9_needCell at he
    refine z_iload_n S dX9_needCell_0 rfl 0 rfl ?_
    refine z_if_lt (tgt := 10) S he dX9_needCell_1 (by decide) (fun he => ?_) (fun he => ?_)
    · refine z_lv (ks := []) rfl ?_
      exact p_X9_needCell_J10 hl0 T0 S  he
    · refine z_iload_n S dX9_needCell_4 rfl 0 rfl ?_
      refine z_bipush (v := 20) S dX9_needCell_5 (by decide) ?_
      refine z_icmp_lt (tgt := 21) S he dX9_needCell_7 (by decide) (fun he => ?_) (fun he => ?_)
      · exact z_xvret S (Option.some.inj he) (by decide) (by decide) dX9_needCell_21
      · refine z_lv (ks := []) rfl ?_
        exact p_X9_needCell_J10 hl0 T0 S  he
set_option maxRecDepth 100000 in
set_option maxHeartbeats 4000000 in
theorem p_X9_move_J52 {X : Cx} {p : Program} {l : Launch} {e : Env} {s : State} {m : MethodId} {args : Array Value} {below : List Frame} {meth : Method} {c : Code} (hl0 : l.stackTraces = false) (T0 : ∀ x ∈ c.exceptionTable.toList, False) (S : SB X 0 p s m args meth c cX9_move 4 (some .int) RX9) {M : Mm} {rx : ((Int32 × Mm) ⊕ (Nat × Mm))} {v1 : Int32} {v2 : Int32} {v3 : Int32}  (he : f_X9_move_J52 M v1 v2 v3 = some rx) : Z X 0 p l e rm_X9_move s m args below meth c 2 12 (vx_MQ below (QXI X 0 rx s.heap.size) (XCX X 0 rx s.heap.size) args s 2 12 (AA X 0 s.heap.size)) 4 M 52 [(0, .ref (X.2.2 1)), (1, .int v1), (2, .int v2), (3, .int v3)] [] := by
  unfold f_X9_move_J52 at he
  refine z_aload_n S dX9_move_52 rfl 0 rfl ?_
  refine z_getGb (k2 := 4) S fo_RX9_20 rfl ok_1 (by decide) he dX9_move_53 (fun q6 hq6 he => ?_)
  refine z_iload_n S dX9_move_56 rfl 1 rfl ?_
  refine z_iconst (v := 0) S dX9_move_57 (by decide) ?_
  refine z_iload_n S dX9_move_58 rfl 2 rfl ?_
  obtain ⟨M7, h9, he⟩ := bnd he
  refine z_cVV (As := [.int v1, .int 0, .int v2]) S cv_RX9_215 (K_X4_setThing (okk4 hq6) (Option.some.inj h9)) (okk4 hq6) (by decide) (q := (RX4, TX4, 10)) rfl rfl ⟨rfl, rfl⟩ ⟨Nat.le_of_ble_eq_true rfl, Nat.le_of_ble_eq_true rfl⟩ ⟨Nat.le_of_ble_eq_true rfl, Nat.le_of_ble_eq_true rfl⟩ rfl rfl (Nat.le_of_ble_eq_true rfl) dX9_move_59 ?_
  refine z_iload_n S dX9_move_62 rfl 3 rfl ?_
  exact z_xiret S (Option.some.inj he) (by decide) (by decide) dX9_move_63
set_option maxRecDepth 100000 in
set_option maxHeartbeats 4000000 in
theorem K_X9_move {X : Cx} {l : Launch} (hl0 : l.stackTraces = false) {M : Mm} {a1 : Int32} {a2 : Int32} {rx : ((Int32 × Mm) ⊕ (Nat × Mm))}  (he : f_X9_move M a1 a2 = some rx) : KXI X 0 l yX9_move (wz yX9_move cX9_move 4 (some .int)) rm_X9_move 2 12 [.ref (X.2.2 1), .int a1, .int a2] M rx := by
  intro sz
  refine KX_of (Qc := fun sz => QXI X 0 rx sz) (XC := fun sz => XCX X 0 rx sz) (own := RX9) (lv0 := [(0, .ref (X.2.2 1)), (1, .int a1), (2, .int a2)]) (by decide +kernel) rfl (Nat.le_of_ble_eq_true rfl) rfl (fun p e s m args below meth c S T0 => ?_) sz
  · unfold f_X9_move at he
    refine z_aload_n S dX9_move_0 rfl 0 rfl ?_
    refine z_iload_n S dX9_move_1 rfl 1 rfl ?_
    obtain ⟨r9, h9, hr1, hr2⟩ := bndS he
    refine z_xVV (As := [.int a1]) S cv_RX9_139 (K_X9_needThing hl0  h9) ok_1 (by decide) (q := (RX9, TX9, 17)) rfl rfl ⟨rfl, rfl⟩ ⟨Nat.le_of_ble_eq_true rfl, Nat.le_of_ble_eq_true rfl⟩ ⟨Nat.le_of_ble_eq_true rfl, Nat.le_of_ble_eq_true rfl⟩ rfl rfl (Nat.le_of_ble_eq_true rfl) dX9_move_2 T0 (by decide) (by decide) (fun q hq => Option.some.inj (hr2 q hq)) (fun e_0 hE => ?_)
    have he := hr1 _ hE
    refine z_iload_n S dX9_move_5 rfl 2 rfl ?_
    obtain ⟨r9, h9, hr1, hr2⟩ := bndS he
    refine z_xSV (As := [.int a2]) S cs_RX9_206 (K_X9_needCell hl0  h9) ⟨rfl, rfl⟩ ⟨Nat.le_of_ble_eq_true rfl, Nat.le_of_ble_eq_true rfl⟩ ⟨Nat.le_of_ble_eq_true rfl, Nat.le_of_ble_eq_true rfl⟩ rfl rfl (Nat.le_of_ble_eq_true rfl) dX9_move_6 T0 (by decide) (by decide) (fun q hq => Option.some.inj (hr2 q hq)) (fun e_1 hE => ?_)
    have he := hr1 _ hE
    refine z_aload_n S dX9_move_9 rfl 0 rfl ?_
    obtain ⟨M3, h9, he⟩ := bnd he
    refine z_cVV (As := []) S cv_RX9_209 (K_X9_remember  h9) ok_1 (by decide) (q := (RX9, TX9, 17)) rfl rfl ⟨rfl, rfl⟩ ⟨Nat.le_of_ble_eq_true rfl, Nat.le_of_ble_eq_true rfl⟩ ⟨Nat.le_of_ble_eq_true rfl, Nat.le_of_ble_eq_true rfl⟩ rfl rfl (Nat.le_of_ble_eq_true rfl) dX9_move_10 ?_
    refine z_aload_n S dX9_move_13 rfl 0 rfl ?_
    refine z_getGb (k2 := 4) S fo_RX9_20 rfl ok_1 (by decide) he dX9_move_14 (fun q4 hq4 he => ?_)
    refine z_iload_n S dX9_move_17 rfl 2 rfl ?_
    obtain ⟨r5, h9, he⟩ := bnd he
    refine z_cVI (As := [.int a2]) S cv_RX9_212 (K_X4_thingAt (okk4 hq4) h9) (okk4 hq4) (by decide) (q := (RX4, TX4, 10)) rfl rfl ⟨rfl, rfl⟩ ⟨Nat.le_of_ble_eq_true rfl, Nat.le_of_ble_eq_true rfl⟩ ⟨Nat.le_of_ble_eq_true rfl, Nat.le_of_ble_eq_true rfl⟩ rfl rfl (Nat.le_of_ble_eq_true rfl) dX9_move_18 ?_
    refine z_istore_n (lv' := [(0, .ref (X.2.2 1)), (1, .int a1), (2, .int a2), (3, .int r5)]) S [1, 2, 3, 0] dX9_move_21 rfl (by decide) rfl ?_
    refine z_iload_n S dX9_move_22 rfl 3 rfl ?_
    refine z_iload_n S dX9_move_23 rfl 1 rfl ?_
    refine z_icmp_ne (tgt := 29) S he dX9_move_24 (by decide) (fun he => ?_) (fun he => ?_)
    · refine z_iload_n S dX9_move_29 rfl 3 rfl ?_
      refine z_iconst (v := (-1)) S dX9_move_30 (by decide) ?_
      refine z_icmp_eq (tgt := 52) S he dX9_move_31 (by decide) (fun he => ?_) (fun he => ?_)
      · exact p_X9_move_J52 hl0 T0 S  he
      · refine z_aload_n S dX9_move_34 rfl 0 rfl ?_
        refine z_getGb (k2 := 4) S fo_RX9_20 rfl ok_1 (by decide) he dX9_move_35 (fun q8 hq8 he => ?_)
        refine z_iload_n S dX9_move_38 rfl 3 rfl ?_
        refine z_iconst (v := 0) S dX9_move_39 (by decide) ?_
        refine z_aload_n S dX9_move_40 rfl 0 rfl ?_
        refine z_getGb (k2 := 4) S fo_RX9_20 rfl ok_1 (by decide) he dX9_move_41 (fun q9 hq9 he => ?_)
        refine z_iload_n S dX9_move_44 rfl 1 rfl ?_
        refine z_iconst (v := 0) S dX9_move_45 (by decide) ?_
        refine z_cVI (As := [.int a1, .int 0]) S cv_RX9_147 (K_X4_ofThing (okk4 hq9) rfl) (okk4 hq9) (by decide) (q := (RX4, TX4, 10)) rfl rfl ⟨rfl, rfl⟩ ⟨Nat.le_of_ble_eq_true rfl, Nat.le_of_ble_eq_true rfl⟩ ⟨Nat.le_of_ble_eq_true rfl, Nat.le_of_ble_eq_true rfl⟩ rfl rfl (Nat.le_of_ble_eq_true rfl) dX9_move_46 ?_
        obtain ⟨M10, h9, he⟩ := bnd he
        refine z_cVV (As := [.int r5, .int 0, .int (f_X4_ofThing M3 q9 a1 0)]) S cv_RX9_215 (K_X4_setThing (okk4 hq8) (Option.some.inj h9)) (okk4 hq8) (by decide) (q := (RX4, TX4, 10)) rfl rfl ⟨rfl, rfl⟩ ⟨Nat.le_of_ble_eq_true rfl, Nat.le_of_ble_eq_true rfl⟩ ⟨Nat.le_of_ble_eq_true rfl, Nat.le_of_ble_eq_true rfl⟩ rfl rfl (Nat.le_of_ble_eq_true rfl) dX9_move_49 ?_
        exact p_X9_move_J52 hl0 T0 S  he
    · refine z_iconst (v := (-1)) S dX9_move_27 (by decide) ?_
      exact z_xiret S (Option.some.inj he) (by decide) (by decide) dX9_move_28
set_option maxRecDepth 100000 in
set_option maxHeartbeats 4000000 in
theorem p_X9_right_L39 {X : Cx} {p : Program} {l : Launch} {e : Env} {s : State} {m : MethodId} {args : Array Value} {below : List Frame} {meth : Method} {c : Code} (hl0 : l.stackTraces = false) (T0 : ∀ x ∈ c.exceptionTable.toList, False) (S : SB X 0 p s m args meth c cX9_right 7 (some .int) RX9) {M : Mm} {rx : ((Int32 × Mm) ⊕ (Nat × Mm))} {v1 : Int32} {v2 : Int32} {v3 : Int32} {v4 : Int32} {v5 : Int32} {x : (Mm × Int32 × Int32 × Int32) ⊕ (Mm × Int32 × Int32)}  (he : f_X9_right_L39 M v1 v2 v3 v4 v5 = some x) (hc : ∀ b, x = .inl b → Z X 0 p l e rm_X9_right s m args below meth c 1 6 (vx_MQ below (QXI X 0 rx s.heap.size) (XCX X 0 rx s.heap.size) args s 1 6 (AA X 0 s.heap.size)) 7 b.1 39 [(0, .ref (X.2.2 1)), (1, .int v1), (2, .int v2), (3, .int b.2.1), (4, .int b.2.2.1), (5, .int b.2.2.2)] []) (hx : ∀ b, x = .inr b → Z X 0 p l e rm_X9_right s m args below meth c 1 6 (vx_MQ below (QXI X 0 rx s.heap.size) (XCX X 0 rx s.heap.size) args s 1 6 (AA X 0 s.heap.size)) 7 b.1 110 [(2, .int v2), (3, .int b.2.1), (4, .int b.2.2)] []) : Z X 0 p l e rm_X9_right s m args below meth c 1 6 (vx_MQ below (QXI X 0 rx s.heap.size) (XCX X 0 rx s.heap.size) args s 1 6 (AA X 0 s.heap.size)) 7 M 39 [(0, .ref (X.2.2 1)), (1, .int v1), (2, .int v2), (3, .int v3), (4, .int v4), (5, .int v5)] [] := by
  unfold f_X9_right_L39 at he
  refine z_iload S dX9_right_39 5 rfl ?_
  refine z_bipush (v := 100) S dX9_right_41 (by decide) ?_
  refine z_icmp_ge (tgt := 110) S he dX9_right_43 (by decide) (fun he => ?_) (fun he => ?_)
  · refine z_lv (ks := [2, 3, 4]) rfl ?_
    exact hx _ (Option.some.inj he).symm
  · refine z_aload_n S dX9_right_46 rfl 0 rfl ?_
    refine z_getGb (k2 := 4) S fo_RX9_24 rfl ok_1 (by decide) he dX9_right_47 (fun q8 hq8 he => ?_)
    refine z_iload_n S dX9_right_50 rfl 1 rfl ?_
    refine z_iconst (v := 1) S dX9_right_51 (by decide) ?_
    refine z_iload S dX9_right_52 5 rfl ?_
    obtain ⟨M9, h9, he⟩ := bnd he
    refine z_cVV (As := [.int v1, .int 1, .int v5]) S cv_RX9_215 (K_X4_setThing (okk4 hq8) (Option.some.inj h9)) (okk4 hq8) (by decide) (q := (RX4, TX4, 10)) rfl rfl ⟨rfl, rfl⟩ ⟨Nat.le_of_ble_eq_true rfl, Nat.le_of_ble_eq_true rfl⟩ ⟨Nat.le_of_ble_eq_true rfl, Nat.le_of_ble_eq_true rfl⟩ rfl rfl (Nat.le_of_ble_eq_true rfl) dX9_right_54 ?_
    refine z_aload_n S dX9_right_57 rfl 0 rfl ?_
    refine z_getF (j := 82) S fo_RX9_50 81 rfl rfl ok_1 dX9_right_58 ?_
    refine z_aload_n S dX9_right_61 rfl 0 rfl ?_
    refine z_getGb (k2 := 4) S fo_RX9_24 rfl ok_1 (by decide) he dX9_right_62 (fun q10 hq10 he => ?_)
    obtain ⟨M11, h9, he⟩ := bnd he
    refine z_cVV (As := [.ref (X.2.2 q10)]) S cv_RX9_278 (K_X6_listen (okk4 hq10) h9) ok_82 (by decide) (q := (RX6, TX6, 4)) rfl rfl ⟨rfl, rfl⟩ ⟨Nat.le_of_ble_eq_true rfl, Nat.le_of_ble_eq_true rfl⟩ ⟨Nat.le_of_ble_eq_true rfl, Nat.le_of_ble_eq_true rfl⟩ rfl rfl (Nat.le_of_ble_eq_true rfl) dX9_right_65 ?_
    refine z_aload_n S dX9_right_68 rfl 0 rfl ?_
    refine z_getF (j := 82) S fo_RX9_50 81 rfl rfl ok_1 dX9_right_69 ?_
    refine z_aload_n S dX9_right_72 rfl 0 rfl ?_
    refine z_getGb (k2 := 4) S fo_RX9_24 rfl ok_1 (by decide) he dX9_right_73 (fun q12 hq12 he => ?_)
    refine z_iconst (v := 0) S dX9_right_76 (by decide) ?_
    obtain ⟨⟨r13, M14⟩, h9, he⟩ := bnd he
    dsimp only at he
    refine z_cVI (As := [.ref (X.2.2 q12), .int 0]) S cv_RX9_202 (K_X6_lead (okk4 hq12) h9) ok_82 (by decide) (q := (RX6, TX6, 4)) rfl rfl ⟨rfl, rfl⟩ ⟨Nat.le_of_ble_eq_true rfl, Nat.le_of_ble_eq_true rfl⟩ ⟨Nat.le_of_ble_eq_true rfl, Nat.le_of_ble_eq_true rfl⟩ rfl rfl (Nat.le_of_ble_eq_true rfl) dX9_right_77 ?_
    refine z_pop S rfl dX9_right_80 ?_
    refine z_aload_n S dX9_right_81 rfl 0 rfl ?_
    refine z_getF (j := 82) S fo_RX9_50 81 rfl rfl ok_1 dX9_right_82 ?_
    refine z_iload_n S dX9_right_85 rfl 1 rfl ?_
    obtain ⟨r15, h9, he⟩ := bnd he
    refine z_cVI (As := [.int v1]) S cv_RX9_281 (K_X6_likedBy  h9) ok_82 (by decide) (q := (RX6, TX6, 4)) rfl rfl ⟨rfl, rfl⟩ ⟨Nat.le_of_ble_eq_true rfl, Nat.le_of_ble_eq_true rfl⟩ ⟨Nat.le_of_ble_eq_true rfl, Nat.le_of_ble_eq_true rfl⟩ rfl rfl (Nat.le_of_ble_eq_true rfl) dX9_right_86 ?_
    refine z_istore (lv' := [(0, .ref (X.2.2 1)), (1, .int v1), (2, .int v2), (3, .int v3), (4, .int v4), (5, .int v5), (6, .int r15)]) S [1, 2, 3, 4, 5, 6, 0] dX9_right_89 (by decide) rfl ?_
    refine z_iload S dX9_right_91 6 rfl ?_
    refine z_iload_n S dX9_right_93 rfl 3 rfl ?_
    refine z_icmp_le (tgt := 104) S he dX9_right_94 (by decide) (fun he => ?_) (fun he => ?_)
    · refine z_iinc (v := (v5 + 1)) (lv' := [(0, .ref (X.2.2 1)), (1, .int v1), (2, .int v2), (3, .int v3), (4, .int v4), (5, .int (v5 + 1)), (6, .int r15)]) S [1, 2, 3, 4, 5, 0, 6] 5 dX9_right_104 rfl (by rfl) (by decide) rfl ?_
      refine z_goto (tgt := 39) S dX9_right_107 (by decide) ?_
      refine z_lv (ks := [0, 1, 2, 3, 4, 5]) rfl ?_
      exact hc _ (Option.some.inj he).symm
    · refine z_iload S dX9_right_97 6 rfl ?_
      refine z_istore_n (lv' := [(0, .ref (X.2.2 1)), (1, .int v1), (2, .int v2), (3, .int r15), (5, .int v5)]) S [1, 2, 3, 0, 5] dX9_right_99 rfl (by decide) rfl ?_
      refine z_iload S dX9_right_100 4 rfl ?_
      refine z_istore (lv' := [(0, .ref (X.2.2 1)), (1, .int v1), (2, .int v2), (3, .int r15), (4, .int v5), (5, .int v5)]) S [1, 2, 3, 4, 0, 5] dX9_right_102 (by decide) rfl ?_
      refine z_iinc (v := (v5 + 1)) (lv' := [(0, .ref (X.2.2 1)), (1, .int v1), (2, .int v2), (3, .int r15), (4, .int v5), (5, .int (v5 + 1))]) S [1, 2, 3, 4, 5, 0] 5 dX9_right_104 rfl (by rfl) (by decide) rfl ?_
      refine z_goto (tgt := 39) S dX9_right_107 (by decide) ?_
      refine z_lv (ks := [0, 1, 2, 3, 4, 5]) rfl ?_
      exact hc _ (Option.some.inj he).symm
set_option maxRecDepth 100000 in
set_option maxHeartbeats 4000000 in
theorem K_X9_right {X : Cx} {l : Launch} (hl0 : l.stackTraces = false) {M : Mm} {a1 : Int32} {a2 : Int32} {rx : ((Int32 × Mm) ⊕ (Nat × Mm))}  (he : f_X9_right M a1 a2 = some rx) : KXI X 0 l yX9_right (wz yX9_right cX9_right 7 (some .int)) rm_X9_right 1 6 [.ref (X.2.2 1), .int a1, .int a2] M rx := by
  intro sz
  refine KX_of (Qc := fun sz => QXI X 0 rx sz) (XC := fun sz => XCX X 0 rx sz) (own := RX9) (lv0 := [(0, .ref (X.2.2 1)), (1, .int a1), (2, .int a2)]) (by decide +kernel) rfl (Nat.le_of_ble_eq_true rfl) rfl (fun p e s m args below meth c S T0 => ?_) sz
  · unfold f_X9_right at he
    refine z_aload_n S dX9_right_0 rfl 0 rfl ?_
    refine z_iload_n S dX9_right_1 rfl 1 rfl ?_
    obtain ⟨r9, h9, hr1, hr2⟩ := bndS he
    refine z_xVV (As := [.int a1]) S cv_RX9_139 (K_X9_needThing hl0  h9) ok_1 (by decide) (q := (RX9, TX9, 17)) rfl rfl ⟨rfl, rfl⟩ ⟨Nat.le_of_ble_eq_true rfl, Nat.le_of_ble_eq_true rfl⟩ ⟨Nat.le_of_ble_eq_true rfl, Nat.le_of_ble_eq_true rfl⟩ rfl rfl (Nat.le_of_ble_eq_true rfl) dX9_right_2 T0 (by decide) (by decide) (fun q hq => Option.some.inj (hr2 q hq)) (fun e_0 hE => ?_)
    have he := hr1 _ hE
    refine z_aload_n S dX9_right_5 rfl 0 rfl ?_
    refine z_getGb (k2 := 4) S fo_RX9_24 rfl ok_1 (by decide) he dX9_right_6 (fun q2 hq2 he => ?_)
    refine z_aload_n S dX9_right_9 rfl 0 rfl ?_
    refine z_getGb (k2 := 4) S fo_RX9_20 rfl ok_1 (by decide) he dX9_right_10 (fun q3 hq3 he => ?_)
    obtain ⟨M4, h9, he⟩ := bnd he
    refine z_cVV (As := [.ref (X.2.2 q3)]) S cv_RX9_93 (K_X4_copyFrom (okk4 hq2) (okk4 hq3) h9) (okk4 hq2) (by decide) (q := (RX4, TX4, 10)) rfl rfl ⟨rfl, rfl⟩ ⟨Nat.le_of_ble_eq_true rfl, Nat.le_of_ble_eq_true rfl⟩ ⟨Nat.le_of_ble_eq_true rfl, Nat.le_of_ble_eq_true rfl⟩ rfl rfl (Nat.le_of_ble_eq_true rfl) dX9_right_13 ?_
    refine z_aload_n S dX9_right_16 rfl 0 rfl ?_
    refine z_getF (j := 82) S fo_RX9_50 81 rfl rfl ok_1 dX9_right_17 ?_
    refine z_aload_n S dX9_right_20 rfl 0 rfl ?_
    refine z_getGb (k2 := 4) S fo_RX9_24 rfl ok_1 (by decide) he dX9_right_21 (fun q5 hq5 he => ?_)
    refine z_aload_n S dX9_right_24 rfl 0 rfl ?_
    refine z_getGb (k2 := 2) S fo_RX9_30 rfl ok_1 (by decide) he dX9_right_25 (fun q6 hq6 he => ?_)
    obtain ⟨M7, h9, he⟩ := bnd he
    refine z_cVV (As := [.ref (X.2.2 q5), .ref (X.2.2 q6)]) S cv_RX9_198 (K_X6_weigh (okk4 hq5) (okk2 hq6) h9) ok_82 (by decide) (q := (RX6, TX6, 4)) rfl rfl ⟨rfl, rfl⟩ ⟨Nat.le_of_ble_eq_true rfl, Nat.le_of_ble_eq_true rfl⟩ ⟨Nat.le_of_ble_eq_true rfl, Nat.le_of_ble_eq_true rfl⟩ rfl rfl (Nat.le_of_ble_eq_true rfl) dX9_right_28 ?_
    refine z_iconst (v := (-1)) S dX9_right_31 (by decide) ?_
    refine z_istore_n (lv' := [(0, .ref (X.2.2 1)), (1, .int a1), (2, .int a2), (3, .int (-1))]) S [1, 2, 3, 0] dX9_right_32 rfl (by decide) rfl ?_
    refine z_iconst (v := 0) S dX9_right_33 (by decide) ?_
    refine z_istore (lv' := [(0, .ref (X.2.2 1)), (1, .int a1), (2, .int a2), (3, .int (-1)), (4, .int 0)]) S [1, 2, 3, 4, 0] dX9_right_34 (by decide) rfl ?_
    refine z_iconst (v := 0) S dX9_right_36 (by decide) ?_
    refine z_istore (lv' := [(0, .ref (X.2.2 1)), (1, .int a1), (2, .int a2), (3, .int (-1)), (4, .int 0), (5, .int 0)]) S [1, 2, 3, 4, 5, 0] dX9_right_37 (by decide) rfl ?_
    obtain ⟨e_16, hl, he⟩ := bnd he
    have hX : Z X 0 p l e rm_X9_right s m args below meth c 1 6 (vx_MQ below (QXI X 0 rx s.heap.size) (XCX X 0 rx s.heap.size) args s 1 6 (AA X 0 s.heap.size)) 7 e_16.1 110 [(2, .int a2), (3, .int e_16.2.1), (4, .int e_16.2.2)] [] := by
      refine z_iload_n S dX9_right_110 rfl 0 rfl ?_
      refine z_if_eq (tgt := 118) S he dX9_right_111 (by decide) (fun he => ?_) (fun he => ?_)
      · refine z_iload S dX9_right_118 2 rfl ?_
        exact z_xiret S (Option.some.inj he) (by decide) (by decide) dX9_right_120
      · refine z_iload_n S dX9_right_114 rfl 1 rfl ?_
        refine z_goto (tgt := 120) S dX9_right_115 (by decide) ?_
        exact z_xiret S (Option.some.inj he) (by decide) (by decide) dX9_right_120
    have hZ9 := loopZ (f := (fun a_16 => f_X9_right_L39 a_16.1 a1 a2 a_16.2.1 a_16.2.2.1 a_16.2.2.2)) (Zh := (fun a_16 => Z X 0 p l e rm_X9_right s m args below meth c 1 6 (vx_MQ below (QXI X 0 rx s.heap.size) (XCX X 0 rx s.heap.size) args s 1 6 (AA X 0 s.heap.size)) 7 a_16.1 39 [(0, .ref (X.2.2 1)), (1, .int a1), (2, .int a2), (3, .int a_16.2.1), (4, .int a_16.2.2.1), (5, .int a_16.2.2.2)] [])) (fun a_16 x hb hc hr => p_X9_right_L39 hl0 T0 S  hb hc (fun b hxe => by rw [hr b hxe]; exact hX)) FU (M7, (-1), 0, 0) hl
    exact hZ9
set_option maxRecDepth 100000 in
set_option maxHeartbeats 4000000 in
theorem K_X9_rivals {X : Cx} {l : Launch} (hl0 : l.stackTraces = false) {M : Mm} {a1 : Int32} {a2 : Int32} {rx : ((Int32 × Mm) ⊕ (Nat × Mm))}  (he : f_X9_rivals M a1 a2 = some rx) : KXI X 0 l yX9_rivals (wz yX9_rivals cX9_rivals 3 (some .int)) rm_X9_rivals 3 18 [.ref (X.2.2 1), .int a1, .int a2] M rx := by
  intro sz
  refine KX_of (Qc := fun sz => QXI X 0 rx sz) (XC := fun sz => XCX X 0 rx sz) (own := RX9) (lv0 := [(0, .ref (X.2.2 1)), (1, .int a1), (2, .int a2)]) (by decide +kernel) rfl (Nat.le_of_ble_eq_true rfl) rfl (fun p e s m args below meth c S T0 => ?_) sz
  · unfold f_X9_rivals at he
    refine z_aload_n S dX9_rivals_0 rfl 0 rfl ?_
    refine z_iload_n S dX9_rivals_1 rfl 1 rfl ?_
    obtain ⟨r9, h9, hr1, hr2⟩ := bndS he
    refine z_xVV (As := [.int a1]) S cv_RX9_139 (K_X9_needThing hl0  h9) ok_1 (by decide) (q := (RX9, TX9, 17)) rfl rfl ⟨rfl, rfl⟩ ⟨Nat.le_of_ble_eq_true rfl, Nat.le_of_ble_eq_true rfl⟩ ⟨Nat.le_of_ble_eq_true rfl, Nat.le_of_ble_eq_true rfl⟩ rfl rfl (Nat.le_of_ble_eq_true rfl) dX9_rivals_2 T0 (by decide) (by decide) (fun q hq => Option.some.inj (hr2 q hq)) (fun e_0 hE => ?_)
    have he := hr1 _ hE
    refine z_aload_n S dX9_rivals_5 rfl 0 rfl ?_
    refine z_iload_n S dX9_rivals_6 rfl 2 rfl ?_
    obtain ⟨r9, h9, hr1, hr2⟩ := bndS he
    refine z_xVV (As := [.int a2]) S cv_RX9_139 (K_X9_needThing hl0  h9) ok_1 (by decide) (q := (RX9, TX9, 17)) rfl rfl ⟨rfl, rfl⟩ ⟨Nat.le_of_ble_eq_true rfl, Nat.le_of_ble_eq_true rfl⟩ ⟨Nat.le_of_ble_eq_true rfl, Nat.le_of_ble_eq_true rfl⟩ rfl rfl (Nat.le_of_ble_eq_true rfl) dX9_rivals_7 T0 (by decide) (by decide) (fun q hq => Option.some.inj (hr2 q hq)) (fun e_1 hE => ?_)
    have he := hr1 _ hE
    refine z_iload_n S dX9_rivals_10 rfl 1 rfl ?_
    refine z_iload_n S dX9_rivals_11 rfl 2 rfl ?_
    refine z_icmp_ne (tgt := 25) S he dX9_rivals_12 (by decide) (fun he => ?_) (fun he => ?_)
    · refine z_aload_n S dX9_rivals_25 rfl 0 rfl ?_
      refine z_getF (j := 82) S fo_RX9_50 81 rfl rfl ok_1 dX9_rivals_26 ?_
      refine z_aload_n S dX9_rivals_29 rfl 0 rfl ?_
      refine z_getGb (k2 := 4) S fo_RX9_20 rfl ok_1 (by decide) he dX9_rivals_30 (fun q3 hq3 he => ?_)
      refine z_aload_n S dX9_rivals_33 rfl 0 rfl ?_
      refine z_getGb (k2 := 2) S fo_RX9_30 rfl ok_1 (by decide) he dX9_rivals_34 (fun q4 hq4 he => ?_)
      obtain ⟨M5, h9, he⟩ := bnd he
      refine z_cVV (As := [.ref (X.2.2 q3), .ref (X.2.2 q4)]) S cv_RX9_198 (K_X6_weigh (okk4 hq3) (okk2 hq4) h9) ok_82 (by decide) (q := (RX6, TX6, 4)) rfl rfl ⟨rfl, rfl⟩ ⟨Nat.le_of_ble_eq_true rfl, Nat.le_of_ble_eq_true rfl⟩ ⟨Nat.le_of_ble_eq_true rfl, Nat.le_of_ble_eq_true rfl⟩ rfl rfl (Nat.le_of_ble_eq_true rfl) dX9_rivals_37 ?_
      refine z_aload_n S dX9_rivals_40 rfl 0 rfl ?_
      refine z_getF (j := 82) S fo_RX9_50 81 rfl rfl ok_1 dX9_rivals_41 ?_
      refine z_getF (j := 84) S fo_RX9_155 2 rfl rfl ok_82 dX9_rivals_44 ?_
      refine z_iload_n S dX9_rivals_47 rfl 1 rfl ?_
      refine z_cSI (As := [.ref (X.2.2 84), .int a1]) S cs_RX9_158 (Kt_X9_at ok_84 rfl) ⟨rfl, rfl⟩ ⟨Nat.le_of_ble_eq_true rfl, Nat.le_of_ble_eq_true rfl⟩ ⟨Nat.le_of_ble_eq_true rfl, Nat.le_of_ble_eq_true rfl⟩ rfl rfl (Nat.le_of_ble_eq_true rfl) dX9_rivals_48 ?_
      refine z_aload_n S dX9_rivals_51 rfl 0 rfl ?_
      refine z_getF (j := 82) S fo_RX9_50 81 rfl rfl ok_1 dX9_rivals_52 ?_
      refine z_getF (j := 84) S fo_RX9_155 2 rfl rfl ok_82 dX9_rivals_55 ?_
      refine z_iload_n S dX9_rivals_58 rfl 2 rfl ?_
      refine z_cSI (As := [.ref (X.2.2 84), .int a2]) S cs_RX9_158 (Kt_X9_at ok_84 rfl) ⟨rfl, rfl⟩ ⟨Nat.le_of_ble_eq_true rfl, Nat.le_of_ble_eq_true rfl⟩ ⟨Nat.le_of_ble_eq_true rfl, Nat.le_of_ble_eq_true rfl⟩ rfl rfl (Nat.le_of_ble_eq_true rfl) dX9_rivals_59 ?_
      refine z_iand S dX9_rivals_62 ?_
      exact z_xiret S (Option.some.inj he) (by decide) (by decide) dX9_rivals_63
    · exact z_throw S hl0 T0 tx_RX9_114_231_118 (k := 1) rfl (Option.some.inj he) dX9_rivals_15 dX9_rivals_18 dX9_rivals_19 dX9_rivals_21 dX9_rivals_24 (Nat.le_of_ble_eq_true rfl) (Nat.le_of_ble_eq_true rfl) (Nat.le_of_ble_eq_true rfl) (Nat.le_of_ble_eq_true rfl) (by decide) (by decide)
set_option maxRecDepth 100000 in
set_option maxHeartbeats 4000000 in
theorem K_X9_seed {X : Cx} {l : Launch} {M : Mm} {a1 : Int32} {r : Int32} {N : Mm}  (he : f_X9_seed M a1 = some (r, N)) : KI X 0 l yX9_seed (wz yX9_seed cX9_seed 3 (some .int)) rm_X9_seed [.ref (X.2.2 1), .int a1] M r N := by
  intro sz
  refine K_of (Qc := (fun sz => QI X 0 r N sz)) (own := RX9) (lv0 := [(0, .ref (X.2.2 1)), (1, .int a1)]) (by decide +kernel) rfl (Nat.le_of_ble_eq_true rfl) rfl (fun p e s m args below meth c S => ?_) sz
  · unfold f_X9_seed at he
    refine z_aload_n S dX9_seed_0 rfl 0 rfl ?_
    refine z_getGb (k2 := 4) S fo_RX9_20 rfl ok_1 (by decide) he dX9_seed_1 (fun q1 hq1 he => ?_)
    refine z_getI S fo_RX9_331 rfl (okk4 hq1) dX9_seed_4 ?_
    refine z_istore_n (lv' := [(0, .ref (X.2.2 1)), (1, .int a1), (2, .int (gI M q1 8))]) S [1, 2, 0] dX9_seed_7 rfl (by decide) rfl ?_
    refine z_aload_n S dX9_seed_8 rfl 0 rfl ?_
    refine z_getGb (k2 := 4) S fo_RX9_20 rfl ok_1 (by decide) he dX9_seed_9 (fun q2 hq2 he => ?_)
    refine z_iload_n S dX9_seed_12 rfl 1 rfl ?_
    refine z_putIb S fo_RX9_331p rfl (okk4 hq2) rfl rfl he dX9_seed_13 (fun M3 he => ?_)
    refine z_iload_n S dX9_seed_16 rfl 2 rfl ?_
    exact z_iret S (Prod.mk.inj (Option.some.inj he)) dX9_seed_17
set_option maxRecDepth 100000 in
set_option maxHeartbeats 4000000 in
theorem p_X9_takeTold_L21 {X : Cx} {p : Program} {l : Launch} {e : Env} {s : State} {m : MethodId} {args : Array Value} {below : List Frame} {meth : Method} {c : Code} (S : SB X 0 p s m args meth c cX9_takeTold 3 (some .int) RX9) {M : Mm} {N : Mm} {r : Int32} {v1 : Int32} {v2 : Int32} {x : Int32 ⊕ ((Int32 × Mm) ⊕ Unit)}  (he : f_X9_takeTold_L21 M v1 v2 = some x) (hc : ∀ b, x = .inl b → Z X 0 p l e rm_X9_takeTold s m args below meth c 0 0 (MQ below (QI X 0 r N s.heap.size) args s 0 0 (AA X 0 s.heap.size)) 3 M 21 [(0, .ref (X.2.2 1)), (1, .int v1), (2, .int b)] []) (hx : ∀ b, x = .inr (.inr b) → Z X 0 p l e rm_X9_takeTold s m args below meth c 0 0 (MQ below (QI X 0 r N s.heap.size) args s 0 0 (AA X 0 s.heap.size)) 3 M 66 [(1, .int v1)] []) (hr : ∀ v, x = .inr (.inl v) → v = (r, N)) : Z X 0 p l e rm_X9_takeTold s m args below meth c 0 0 (MQ below (QI X 0 r N s.heap.size) args s 0 0 (AA X 0 s.heap.size)) 3 M 21 [(0, .ref (X.2.2 1)), (1, .int v1), (2, .int v2)] [] := by
  unfold f_X9_takeTold_L21 at he
  refine z_iload_n S dX9_takeTold_21 rfl 2 rfl ?_
  refine z_iload_n S dX9_takeTold_22 rfl 1 rfl ?_
  refine z_icmp_ge (tgt := 66) S he dX9_takeTold_23 (by decide) (fun he => ?_) (fun he => ?_)
  · refine z_lv (ks := [1]) rfl ?_
    exact hx _ (Option.some.inj he).symm
  · refine z_aload_n S dX9_takeTold_26 rfl 0 rfl ?_
    refine z_getF (j := 2) S fo_RX9_9 1 rfl rfl ok_1 dX9_takeTold_27 ?_
    refine z_iload_n S dX9_takeTold_30 rfl 2 rfl ?_
    refine z_cSI (As := [.ref (X.2.2 2), .int v2]) S cs_RX9_158 (Kt_X9_at ok_2 rfl) ⟨rfl, rfl⟩ ⟨Nat.le_of_ble_eq_true rfl, Nat.le_of_ble_eq_true rfl⟩ ⟨Nat.le_refl _, Nat.le_refl _⟩ rfl rfl (Nat.le_of_ble_eq_true rfl) dX9_takeTold_31 ?_
    refine z_aload_n S dX9_takeTold_34 rfl 0 rfl ?_
    refine z_getGb (k2 := 4) S fo_RX9_20 rfl ok_1 (by decide) he dX9_takeTold_35 (fun q3 hq3 he => ?_)
    refine z_getI S fo_RX9_289 rfl (okk4 hq3) dX9_takeTold_38 ?_
    refine z_icmp_ge (tgt := 58) S he dX9_takeTold_41 (by decide) (fun he => ?_) (fun he => ?_)
    · refine z_iconst (v := (-1)) S dX9_takeTold_58 (by decide) ?_
      exact z_iret S (Prod.mk.inj (hr _ (Option.some.inj he).symm)) dX9_takeTold_59
    · refine z_aload_n S dX9_takeTold_44 rfl 0 rfl ?_
      refine z_getF (j := 2) S fo_RX9_9 1 rfl rfl ok_1 dX9_takeTold_45 ?_
      refine z_iload_n S dX9_takeTold_48 rfl 2 rfl ?_
      refine z_iconst (v := 1) S dX9_takeTold_49 (by decide) ?_
      refine z_iadd S dX9_takeTold_50 ?_
      refine z_cSI (As := [.ref (X.2.2 2), .int (v2 + 1)]) S cs_RX9_158 (Kt_X9_at ok_2 rfl) ⟨rfl, rfl⟩ ⟨Nat.le_of_ble_eq_true rfl, Nat.le_of_ble_eq_true rfl⟩ ⟨Nat.le_refl _, Nat.le_refl _⟩ rfl rfl (Nat.le_of_ble_eq_true rfl) dX9_takeTold_51 ?_
      refine z_iconst (v := 1) S dX9_takeTold_54 (by decide) ?_
      refine z_icmp_le (tgt := 60) S he dX9_takeTold_55 (by decide) (fun he => ?_) (fun he => ?_)
      · refine z_iinc (v := (v2 + 2)) (lv' := [(0, .ref (X.2.2 1)), (1, .int v1), (2, .int (v2 + 2))]) S [1, 2, 0] 2 dX9_takeTold_60 rfl (by rfl) (by decide) rfl ?_
        refine z_goto (tgt := 21) S dX9_takeTold_63 (by decide) ?_
        refine z_lv (ks := [0, 1, 2]) rfl ?_
        exact hc _ (Option.some.inj he).symm
      · refine z_iconst (v := (-1)) S dX9_takeTold_58 (by decide) ?_
        exact z_iret S (Prod.mk.inj (hr _ (Option.some.inj he).symm)) dX9_takeTold_59
set_option maxRecDepth 100000 in
set_option maxHeartbeats 4000000 in
theorem K_X9_takeTold {X : Cx} {l : Launch} {M : Mm} {r : Int32} {N : Mm}  (he : f_X9_takeTold M  = some (r, N)) : KI X 0 l yX9_takeTold (wz yX9_takeTold cX9_takeTold 3 (some .int)) rm_X9_takeTold [.ref (X.2.2 1)] M r N := by
  intro sz
  refine K_of (Qc := (fun sz => QI X 0 r N sz)) (own := RX9) (lv0 := [(0, .ref (X.2.2 1))]) (by decide +kernel) rfl (Nat.le_of_ble_eq_true rfl) rfl (fun p e s m args below meth c S => ?_) sz
  · unfold f_X9_takeTold at he
    refine z_aload_n S dX9_takeTold_0 rfl 0 rfl ?_
    obtain ⟨⟨r1, M2⟩, h9, he⟩ := bnd he
    dsimp only at he
    refine z_cVI (As := []) S cv_RX9_97 (K_X9_useTapeUp  (Option.some.inj h9)) ok_1 (by decide) (q := (RX9, TX9, 17)) rfl rfl ⟨rfl, rfl⟩ ⟨Nat.le_of_ble_eq_true rfl, Nat.le_of_ble_eq_true rfl⟩ ⟨Nat.le_refl _, Nat.le_refl _⟩ rfl rfl (Nat.le_of_ble_eq_true rfl) dX9_takeTold_1 ?_
    refine z_istore_n (lv' := [(0, .ref (X.2.2 1)), (1, .int r1)]) S [1, 0] dX9_takeTold_4 rfl (by decide) rfl ?_
    refine z_iload_n S dX9_takeTold_5 rfl 1 rfl ?_
    refine z_bipush (v := 40) S dX9_takeTold_6 (by decide) ?_
    refine z_icmp_gt (tgt := 17) S he dX9_takeTold_8 (by decide) (fun he => ?_) (fun he => ?_)
    · refine z_iconst (v := (-1)) S dX9_takeTold_17 (by decide) ?_
      exact z_iret S (Prod.mk.inj (Option.some.inj he)) dX9_takeTold_18
    · refine z_iload_n S dX9_takeTold_11 rfl 1 rfl ?_
      refine z_iconst (v := 2) S dX9_takeTold_12 (by decide) ?_
      refine z_irem S (by decide) dX9_takeTold_13 ?_
      refine z_if_eq (tgt := 19) S he dX9_takeTold_14 (by decide) (fun he => ?_) (fun he => ?_)
      · refine z_iconst (v := 0) S dX9_takeTold_19 (by decide) ?_
        refine z_istore_n (lv' := [(0, .ref (X.2.2 1)), (1, .int r1), (2, .int 0)]) S [1, 2, 0] dX9_takeTold_20 rfl (by decide) rfl ?_
        obtain ⟨r9, hl, hr1, hr2⟩ := bndS he
        have hX : ∀ e_4, r9 = .inr e_4 → Z X 0 p l e rm_X9_takeTold s m args below meth c 0 0 (MQ below (QI X 0 r N s.heap.size) args s 0 0 (AA X 0 s.heap.size)) 3 M2 66 [(1, .int r1)] [] := by
          intro e_4 hre
          have he := hr2 e_4 hre
          refine z_iload_n S dX9_takeTold_66 rfl 0 rfl ?_
          exact z_iret S (Prod.mk.inj (Option.some.inj he)) dX9_takeTold_67
        have hZ9 := loopZ (f := (fun a_4 => f_X9_takeTold_L21 M2 r1 a_4)) (Zh := (fun a_4 => Z X 0 p l e rm_X9_takeTold s m args below meth c 0 0 (MQ below (QI X 0 r N s.heap.size) args s 0 0 (AA X 0 s.heap.size)) 3 M2 21 [(0, .ref (X.2.2 1)), (1, .int r1), (2, .int a_4)] [])) (fun a_4 x hb hc hr9 => p_X9_takeTold_L21 S  hb hc (fun b hxe => hX b (hr9 _ hxe).symm) (fun v hxv => Option.some.inj (hr1 v (hr9 _ hxv).symm))) FU 0 hl
        exact hZ9
      · refine z_iconst (v := (-1)) S dX9_takeTold_17 (by decide) ?_
        exact z_iret S (Prod.mk.inj (Option.some.inj he)) dX9_takeTold_18
set_option maxRecDepth 100000 in
set_option maxHeartbeats 4000000 in
theorem p_X9_send_L51 {X : Cx} {p : Program} {l : Launch} {e : Env} {s : State} {m : MethodId} {args : Array Value} {below : List Frame} {meth : Method} {c : Code} (hl0 : l.stackTraces = false) (T0 : ∀ x ∈ c.exceptionTable.toList, False) (S : SB X 0 p s m args meth c cX9_send 10 (some .int) RX9) {M : Mm} {rx : ((Int32 × Mm) ⊕ (Nat × Mm))} {v2 : Int64} {v4 : Int32} {v5 : Int32} {v6 : Int32} {v7 : Int32} {x : (Int32 × Int32 × Int32) ⊕ Int32}  (he : f_X9_send_L51 M v2 v4 v5 v6 v7 = some x) (hc : ∀ b, x = .inl b → Z X 0 p l e rm_X9_send s m args below meth c 0 0 (vx_MQ below (QXI X 0 rx s.heap.size) (XCX X 0 rx s.heap.size) args s 1 6 (AA X 0 s.heap.size)) 10 M 51 [(0, .ref (X.2.2 1)), (2, .long v2), (4, .int v4), (5, .int b.1), (6, .int b.2.1), (7, .int b.2.2)] []) (hx : ∀ b, x = .inr b → Z X 0 p l e rm_X9_send s m args below meth c 0 0 (vx_MQ below (QXI X 0 rx s.heap.size) (XCX X 0 rx s.heap.size) args s 1 6 (AA X 0 s.heap.size)) 10 M 116 [(5, .int b)] []) : Z X 0 p l e rm_X9_send s m args below meth c 0 0 (vx_MQ below (QXI X 0 rx s.heap.size) (XCX X 0 rx s.heap.size) args s 1 6 (AA X 0 s.heap.size)) 10 M 51 [(0, .ref (X.2.2 1)), (2, .long v2), (4, .int v4), (5, .int v5), (6, .int v6), (7, .int v7)] [] := by
  unfold f_X9_send_L51 at he
  refine z_iload S dX9_send_51 5 rfl ?_
  refine z_aload_n S dX9_send_53 rfl 0 rfl ?_
  refine z_getGb (k2 := 4) S fo_RX9_20 rfl ok_1 (by decide) he dX9_send_54 (fun q5 hq5 he => ?_)
  refine z_getI S fo_RX9_289 rfl (okk4 hq5) dX9_send_57 ?_
  refine z_icmp_ge (tgt := 116) S he dX9_send_60 (by decide) (fun he => ?_) (fun he => ?_)
  · refine z_lv (ks := [3]) rfl ?_
    exact hx _ (Option.some.inj he).symm
  · refine z_lload_n S dX9_send_63 rfl 1 rfl ?_
    refine z_aload_n S dX9_send_64 rfl 0 rfl ?_
    refine z_getGb (k2 := 4) S fo_RX9_20 rfl ok_1 (by decide) he dX9_send_65 (fun q6 hq6 he => ?_)
    refine z_iload S dX9_send_68 5 rfl ?_
    refine z_iconst (v := 4) S dX9_send_70 (by decide) ?_
    refine z_cVI (As := [.int v7, .int 4]) S cv_RX9_174 (K_X4_ofVisitor (okk4 hq6) rfl) (okk4 hq6) (by decide) (q := (RX4, TX4, 10)) rfl rfl ⟨rfl, rfl⟩ ⟨Nat.le_of_ble_eq_true rfl, Nat.le_of_ble_eq_true rfl⟩ ⟨Nat.le_of_ble_eq_true rfl, Nat.le_of_ble_eq_true rfl⟩ rfl rfl (Nat.le_of_ble_eq_true rfl) dX9_send_71 ?_
    obtain ⟨r7, h9, he⟩ := bnd he
    refine z_cSL (As := [.int (f_X4_ofVisitor M q6 v7 4)]) S cs_RX9_310 (K_X9_setsWithin  h9) ⟨rfl, rfl⟩ ⟨Nat.le_of_ble_eq_true rfl, Nat.le_of_ble_eq_true rfl⟩ ⟨Nat.le_of_ble_eq_true rfl, Nat.le_of_ble_eq_true rfl⟩ rfl rfl (Nat.le_of_ble_eq_true rfl) dX9_send_74 ?_
    refine z_land S dX9_send_77 ?_
    obtain ⟨r8, h9, he⟩ := bnd he
    refine z_cSI (As := [.long (v2 &&& r7)]) S cs_RX9_305 (K_J13_bitCount_95d88  h9) ⟨rfl, rfl⟩ ⟨Nat.le_of_ble_eq_true rfl, Nat.le_of_ble_eq_true rfl⟩ ⟨Nat.le_of_ble_eq_true rfl, Nat.le_of_ble_eq_true rfl⟩ rfl rfl (Nat.le_of_ble_eq_true rfl) dX9_send_78 ?_
    refine z_istore (lv' := [(0, .ref (X.2.2 1)), (2, .long v2), (4, .int v4), (5, .int v5), (6, .int v6), (7, .int v7), (8, .int r8)]) S [1, 2, 3, 4, 5, 6, 0] dX9_send_81 (by decide) rfl ?_
    refine z_iload S dX9_send_83 6 rfl ?_
    refine z_iload S dX9_send_85 2 rfl ?_
    refine z_iload S dX9_send_87 6 rfl ?_
    refine z_isub S dX9_send_89 ?_
    refine z_mmax S cm_RX9_313 (Nat.le_of_ble_eq_true rfl) (Nat.le_of_ble_eq_true rfl) ⟨Nat.le_of_ble_eq_true rfl, Nat.le_of_ble_eq_true rfl⟩ dX9_send_90 ?_
    refine z_istore (lv' := [(0, .ref (X.2.2 1)), (2, .long v2), (4, .int v4), (5, .int v5), (6, .int v6), (7, .int v7), (9, .int (mx r8 (v4 - r8)))]) S [1, 2, 3, 4, 5, 6, 0] dX9_send_93 (by decide) rfl ?_
    refine z_iload S dX9_send_95 6 rfl ?_
    refine z_iload S dX9_send_97 4 rfl ?_
    refine z_icmp_ge (tgt := 110) S he dX9_send_99 (by decide) (fun he => ?_) (fun he => ?_)
    · refine z_iinc (v := (v7 + 1)) (lv' := [(0, .ref (X.2.2 1)), (2, .long v2), (4, .int v4), (5, .int v5), (6, .int v6), (7, .int (v7 + 1)), (9, .int (mx r8 (v4 - r8)))]) S [1, 2, 3, 4, 5, 0, 6] 5 dX9_send_110 rfl (by rfl) (by decide) rfl ?_
      refine z_goto (tgt := 51) S dX9_send_113 (by decide) ?_
      refine z_lv (ks := [0, 1, 2, 3, 4, 5]) rfl ?_
      exact hc _ (Option.some.inj he).symm
    · refine z_iload S dX9_send_102 6 rfl ?_
      refine z_istore (lv' := [(0, .ref (X.2.2 1)), (2, .long v2), (4, .int v4), (6, .int (mx r8 (v4 - r8))), (7, .int v7)]) S [1, 2, 3, 0, 5] dX9_send_104 (by decide) rfl ?_
      refine z_iload S dX9_send_106 4 rfl ?_
      refine z_istore (lv' := [(0, .ref (X.2.2 1)), (2, .long v2), (4, .int v4), (5, .int v7), (6, .int (mx r8 (v4 - r8))), (7, .int v7)]) S [1, 2, 3, 0, 4, 5] dX9_send_108 (by decide) rfl ?_
      refine z_iinc (v := (v7 + 1)) (lv' := [(0, .ref (X.2.2 1)), (2, .long v2), (4, .int v4), (5, .int v7), (6, .int (mx r8 (v4 - r8))), (7, .int (v7 + 1))]) S [1, 2, 3, 4, 5, 0] 5 dX9_send_110 rfl (by rfl) (by decide) rfl ?_
      refine z_goto (tgt := 51) S dX9_send_113 (by decide) ?_
      refine z_lv (ks := [0, 1, 2, 3, 4, 5]) rfl ?_
      exact hc _ (Option.some.inj he).symm
set_option maxRecDepth 100000 in
set_option maxHeartbeats 4000000 in
theorem K_X9_send {X : Cx} {l : Launch} (hl0 : l.stackTraces = false) {M : Mm} {rx : ((Int32 × Mm) ⊕ (Nat × Mm))}  (he : f_X9_send M  = some rx) : KXI X 0 l yX9_send (wz yX9_send cX9_send 10 (some .int)) rm_X9_send 1 6 [.ref (X.2.2 1)] M rx := by
  intro sz
  refine KX_of (Qc := fun sz => QXI X 0 rx sz) (XC := fun sz => XCX X 0 rx sz) (own := RX9) (lv0 := [(0, .ref (X.2.2 1))]) (by decide +kernel) rfl (Nat.le_of_ble_eq_true rfl) rfl (fun p e s m args below meth c S T0 => ?_) sz
  · unfold f_X9_send at he
    refine z_aload_n S dX9_send_0 rfl 0 rfl ?_
    obtain ⟨⟨r1, M2⟩, h9, he⟩ := bnd he
    dsimp only at he
    refine z_cVI (As := []) S cv_RX9_292 (K_X9_takeTold  h9) ok_1 (by decide) (q := (RX9, TX9, 17)) rfl rfl ⟨rfl, rfl⟩ ⟨Nat.le_of_ble_eq_true rfl, Nat.le_of_ble_eq_true rfl⟩ ⟨Nat.le_of_ble_eq_true rfl, Nat.le_of_ble_eq_true rfl⟩ rfl rfl (Nat.le_of_ble_eq_true rfl) dX9_send_1 ?_
    refine z_istore_n (lv' := [(0, .ref (X.2.2 1)), (1, .int r1)]) S [1, 0] dX9_send_4 rfl (by decide) rfl ?_
    refine z_iload_n S dX9_send_5 rfl 1 rfl ?_
    refine z_iconst (v := (-1)) S dX9_send_6 (by decide) ?_
    refine z_icmp_ne (tgt := 21) S he dX9_send_7 (by decide) (fun he => ?_) (fun he => ?_)
    · refine z_aload_n S dX9_send_21 rfl 0 rfl ?_
      refine z_iload_n S dX9_send_22 rfl 1 rfl ?_
      obtain ⟨r3, h9, he⟩ := bnd he
      refine z_cVL (As := [.int r1]) S cv_RX9_297 (K_X9_fittingSets  h9) ok_1 (by decide) (q := (RX9, TX9, 17)) rfl rfl ⟨rfl, rfl⟩ ⟨Nat.le_of_ble_eq_true rfl, Nat.le_of_ble_eq_true rfl⟩ ⟨Nat.le_of_ble_eq_true rfl, Nat.le_of_ble_eq_true rfl⟩ rfl rfl (Nat.le_of_ble_eq_true rfl) dX9_send_23 ?_
      refine z_lstore_n (lv' := [(0, .ref (X.2.2 1)), (2, .long r3)]) S [1, 0] dX9_send_26 rfl (by decide) rfl ?_
      refine z_lload_n S dX9_send_27 rfl 1 rfl ?_
      obtain ⟨r4, h9, he⟩ := bnd he
      refine z_cSI (As := [.long r3]) S cs_RX9_305 (K_J13_bitCount_95d88  h9) ⟨rfl, rfl⟩ ⟨Nat.le_of_ble_eq_true rfl, Nat.le_of_ble_eq_true rfl⟩ ⟨Nat.le_of_ble_eq_true rfl, Nat.le_of_ble_eq_true rfl⟩ rfl rfl (Nat.le_of_ble_eq_true rfl) dX9_send_28 ?_
      refine z_istore (lv' := [(0, .ref (X.2.2 1)), (2, .long r3), (4, .int r4)]) S [1, 2, 0] dX9_send_31 (by decide) rfl ?_
      refine z_iload S dX9_send_33 2 rfl ?_
      refine z_iconst (v := 2) S dX9_send_35 (by decide) ?_
      refine z_icmp_ge (tgt := 41) S he dX9_send_36 (by decide) (fun he => ?_) (fun he => ?_)
      · refine z_iconst (v := (-1)) S dX9_send_41 (by decide) ?_
        refine z_istore (lv' := [(0, .ref (X.2.2 1)), (2, .long r3), (4, .int r4), (5, .int (-1))]) S [1, 2, 3, 0] dX9_send_42 (by decide) rfl ?_
        refine z_bipush (v := 65) S dX9_send_44 (by decide) ?_
        refine z_istore (lv' := [(0, .ref (X.2.2 1)), (2, .long r3), (4, .int r4), (5, .int (-1)), (6, .int 65)]) S [1, 2, 3, 4, 0] dX9_send_46 (by decide) rfl ?_
        refine z_iconst (v := 0) S dX9_send_48 (by decide) ?_
        refine z_istore (lv' := [(0, .ref (X.2.2 1)), (2, .long r3), (4, .int r4), (5, .int (-1)), (6, .int 65), (7, .int 0)]) S [1, 2, 3, 4, 5, 0] dX9_send_49 (by decide) rfl ?_
        obtain ⟨e_9, hl, he⟩ := bnd he
        have hX : Z X 0 p l e rm_X9_send s m args below meth c 0 0 (vx_MQ below (QXI X 0 rx s.heap.size) (XCX X 0 rx s.heap.size) args s 1 6 (AA X 0 s.heap.size)) 10 M2 116 [(5, .int e_9)] [] := by
          refine z_iload S dX9_send_116 0 rfl ?_
          exact z_xiret S (Option.some.inj he) (by decide) (by decide) dX9_send_118
        have hZ9 := loopZ (f := (fun a_9 => f_X9_send_L51 M2 r3 r4 a_9.1 a_9.2.1 a_9.2.2)) (Zh := (fun a_9 => Z X 0 p l e rm_X9_send s m args below meth c 0 0 (vx_MQ below (QXI X 0 rx s.heap.size) (XCX X 0 rx s.heap.size) args s 1 6 (AA X 0 s.heap.size)) 10 M2 51 [(0, .ref (X.2.2 1)), (2, .long r3), (4, .int r4), (5, .int a_9.1), (6, .int a_9.2.1), (7, .int a_9.2.2)] [])) (fun a_9 x hb hc hr => p_X9_send_L51 hl0 T0 S  hb hc (fun b hxe => by rw [hr b hxe]; exact hX)) FU ((-1), 65, 0) hl
        exact hZ9
      · refine z_iconst (v := (-1)) S dX9_send_39 (by decide) ?_
        exact z_xiret S (Option.some.inj he) (by decide) (by decide) dX9_send_40
    · exact z_throwW S hl0 T0 tx_RX9_114_295_118 (k := 1) rfl (Option.some.inj he) dX9_send_10 dX9_send_13 dX9_send_14 dX9_send_17 dX9_send_20 (Nat.le_of_ble_eq_true rfl) (Nat.le_of_ble_eq_true rfl) (Nat.le_of_ble_eq_true rfl) (Nat.le_of_ble_eq_true rfl) (by decide) (by decide)
