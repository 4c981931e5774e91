set_option maxRecDepth 100000 in
set_option maxHeartbeats 4000000 in
theorem p_X10_cannot_J13_40 {X : Cx} {p : Program} {l : Launch} {e : Env} {s : State} {m : MethodId} {args : Array Value} {below : List Frame} {meth : Method} {c : Code} (S : SB X 1 p s m args meth c cX10_cannot 3 (some .int) RX10) {M : Mm} {N : Mm} {r : Int32} {v1 : Int32} {v2 : Int32} {x : (Mm × Int32 × Int32) ⊕ (Mm × Int32)}  (he : f_X10_cannot_J13_40 M v1 v2 = some x) (hc : ∀ b, x = .inl b → Z X 1 p l e rm_X10_cannot s m args below meth c 0 0 (MQ below (QI X 1 r N s.heap.size) args s 0 0 (AA X 1 s.heap.size)) 3 b.1 13 [(0, .ref (X.2.2 109)), (1, .int b.2.1), (2, .int b.2.2)] []) (hx : ∀ b, x = .inr b → Z X 1 p l e rm_X10_cannot s m args below meth c 0 0 (MQ below (QI X 1 r N s.heap.size) args s 0 0 (AA X 1 s.heap.size)) 3 b.1 56 [(1, .int b.2)] []) : Z X 1 p l e rm_X10_cannot s m args below meth c 0 0 (MQ below (QI X 1 r N s.heap.size) args s 0 0 (AA X 1 s.heap.size)) 3 M 40 [(0, .ref (X.2.2 109)), (1, .int v1), (2, .int v2)] [] := by
  unfold f_X10_cannot_J13_40 at he
  refine z_aload_n S dX10_cannot_40 rfl 0 rfl ?_
  refine z_iload_n S dX10_cannot_41 rfl 2 rfl ?_
  obtain ⟨⟨r3, M4⟩, h9, he⟩ := bnd he
  dsimp only at he
  refine z_cVI (As := [.int v2]) S cv_RX10_324 (K_X10_areHad  h9) ok_109 (by decide) (q := (RX10, TX10, 28)) rfl rfl ⟨rfl, rfl⟩ ⟨Nat.le_of_ble_eq_true rfl, Nat.le_of_ble_eq_true rfl⟩ ⟨Nat.le_refl _, Nat.le_refl _⟩ rfl rfl (Nat.le_of_ble_eq_true rfl) dX10_cannot_42 ?_
  refine z_ifb_ne (tgt := 50) S he dX10_cannot_45 (by decide) (fun he => ?_) (fun he => ?_)
  · refine z_iinc (v := (v2 + 1)) (lv' := [(0, .ref (X.2.2 109)), (1, .int v1), (2, .int (v2 + 1))]) S [1, 2, 0] 2 dX10_cannot_50 rfl (by rfl) (by decide) rfl ?_
    refine z_goto (tgt := 13) S dX10_cannot_53 (by decide) ?_
    refine z_lv (ks := [0, 1, 2]) rfl ?_
    exact hc _ (Option.some.inj he).symm
  · refine z_iload_n S dX10_cannot_48 rfl 2 rfl ?_
    refine z_istore_n (lv' := [(0, .ref (X.2.2 109)), (1, .int v2), (2, .int v2)]) S [1, 0, 2] dX10_cannot_49 rfl (by decide) rfl ?_
    refine z_iinc (v := (v2 + 1)) (lv' := [(0, .ref (X.2.2 109)), (1, .int v2), (2, .int (v2 + 1))]) S [1, 2, 0] 2 dX10_cannot_50 rfl (by rfl) (by decide) rfl ?_
    refine z_goto (tgt := 13) S dX10_cannot_53 (by decide) ?_
    refine z_lv (ks := [0, 1, 2]) rfl ?_
    exact hc _ (Option.some.inj he).symm
set_option maxRecDepth 100000 in
set_option maxHeartbeats 4000000 in
theorem p_X10_cannot_L13 {X : Cx} {p : Program} {l : Launch} {e : Env} {s : State} {m : MethodId} {args : Array Value} {below : List Frame} {meth : Method} {c : Code} (S : SB X 1 p s m args meth c cX10_cannot 3 (some .int) RX10) {M : Mm} {N : Mm} {r : Int32} {v1 : Int32} {v2 : Int32} {x : (Mm × Int32 × Int32) ⊕ (Mm × Int32)}  (he : f_X10_cannot_L13 M v1 v2 = some x) (hc : ∀ b, x = .inl b → Z X 1 p l e rm_X10_cannot s m args below meth c 0 0 (MQ below (QI X 1 r N s.heap.size) args s 0 0 (AA X 1 s.heap.size)) 3 b.1 13 [(0, .ref (X.2.2 109)), (1, .int b.2.1), (2, .int b.2.2)] []) (hx : ∀ b, x = .inr b → Z X 1 p l e rm_X10_cannot s m args below meth c 0 0 (MQ below (QI X 1 r N s.heap.size) args s 0 0 (AA X 1 s.heap.size)) 3 b.1 56 [(1, .int b.2)] []) : Z X 1 p l e rm_X10_cannot s m args below meth c 0 0 (MQ below (QI X 1 r N s.heap.size) args s 0 0 (AA X 1 s.heap.size)) 3 M 13 [(0, .ref (X.2.2 109)), (1, .int v1), (2, .int v2)] [] := by
  unfold f_X10_cannot_L13 at he
  refine z_iload_n S dX10_cannot_13 rfl 2 rfl ?_
  refine z_iconst (v := 1) S dX10_cannot_14 (by decide) ?_
  refine z_aload_n S dX10_cannot_15 rfl 0 rfl ?_
  refine z_getF (j := 110) S fo_RX10_7 1 rfl rfl ok_109 dX10_cannot_16 ?_
  refine z_iconst (v := 4) S dX10_cannot_19 (by decide) ?_
  refine z_iald S ok_110 rfl he dX10_cannot_20 (fun he => ?_)
  refine z_ishl S dX10_cannot_21 ?_
  refine z_icmp_ge (tgt := 56) S he dX10_cannot_22 (by decide) (fun he => ?_) (fun he => ?_)
  · refine z_lv (ks := [1]) rfl ?_
    exact hx _ (Option.some.inj he).symm
  · refine z_iload_n S dX10_cannot_25 rfl 1 rfl ?_
    refine z_if_eq (tgt := 40) S he dX10_cannot_26 (by decide) (fun he => ?_) (fun he => ?_)
    · exact p_X10_cannot_J13_40 S  he hc hx
    · refine z_iload_n S dX10_cannot_29 rfl 2 rfl ?_
      obtain ⟨r5, h9, he⟩ := bnd he
      refine z_cSI (As := [.int v2]) S cs_RX10_321 (K_X10_bits  h9) ⟨rfl, rfl⟩ ⟨Nat.le_of_ble_eq_true rfl, Nat.le_of_ble_eq_true rfl⟩ ⟨Nat.le_refl _, Nat.le_refl _⟩ rfl rfl (Nat.le_of_ble_eq_true rfl) dX10_cannot_30 ?_
      refine z_iload_n S dX10_cannot_33 rfl 1 rfl ?_
      obtain ⟨r6, h9, he⟩ := bnd he
      refine z_cSI (As := [.int v1]) S cs_RX10_321 (K_X10_bits  h9) ⟨rfl, rfl⟩ ⟨Nat.le_of_ble_eq_true rfl, Nat.le_of_ble_eq_true rfl⟩ ⟨Nat.le_refl _, Nat.le_refl _⟩ rfl rfl (Nat.le_of_ble_eq_true rfl) dX10_cannot_34 ?_
      refine z_icmp_ge (tgt := 50) S he dX10_cannot_37 (by decide) (fun he => ?_) (fun he => ?_)
      · refine z_iinc (v := (v2 + 1)) (lv' := [(0, .ref (X.2.2 109)), (1, .int v1), (2, .int (v2 + 1))]) S [1, 2, 0] 2 dX10_cannot_50 rfl (by rfl) (by decide) rfl ?_
        refine z_goto (tgt := 13) S dX10_cannot_53 (by decide) ?_
        refine z_lv (ks := [0, 1, 2]) rfl ?_
        exact hc _ (Option.some.inj he).symm
      · exact p_X10_cannot_J13_40 S  he hc hx
set_option maxRecDepth 100000 in
set_option maxHeartbeats 4000000 in
theorem K_X10_cannot {X : Cx} {l : Launch} {M : Mm} {r : Int32} {N : Mm}  (he : f_X10_cannot M  = some (r, N)) : KI X 1 l yX10_cannot (wz yX10_cannot cX10_cannot 3 (some .int)) rm_X10_cannot [.ref (X.2.2 109)] M r N := by
  intro sz
  refine K_of (Qc := (fun sz => QI X 1 r N sz)) (own := RX10) (lv0 := [(0, .ref (X.2.2 109))]) (by decide +kernel) rfl (Nat.le_of_ble_eq_true rfl) rfl (fun p e s m args below meth c S => ?_) sz
  · unfold f_X10_cannot at he
    refine z_aload_n S dX10_cannot_0 rfl 0 rfl ?_
    refine z_iconst (v := 0) S dX10_cannot_1 (by decide) ?_
    refine z_putIb S fo_RX10_63p rfl ok_109 rfl rfl he dX10_cannot_2 (fun M1 he => ?_)
    refine z_aload_n S dX10_cannot_5 rfl 0 rfl ?_
    obtain ⟨M2, h9, he⟩ := bnd he
    refine z_cVV (As := []) S cv_RX10_318 (K_X10_looks  h9) ok_109 (by decide) (q := (RX10, TX10, 28)) rfl rfl ⟨rfl, rfl⟩ ⟨Nat.le_of_ble_eq_true rfl, Nat.le_of_ble_eq_true rfl⟩ ⟨Nat.le_refl _, Nat.le_refl _⟩ rfl rfl (Nat.le_of_ble_eq_true rfl) dX10_cannot_6 ?_
    refine z_iconst (v := 0) S dX10_cannot_9 (by decide) ?_
    refine z_istore_n (lv' := [(0, .ref (X.2.2 109)), (1, .int 0)]) S [1, 0] dX10_cannot_10 rfl (by decide) rfl ?_
    refine z_iconst (v := 1) S dX10_cannot_11 (by decide) ?_
    refine z_istore_n (lv' := [(0, .ref (X.2.2 109)), (1, .int 0), (2, .int 1)]) S [1, 2, 0] dX10_cannot_12 rfl (by decide) rfl ?_
    obtain ⟨e_7, hl, he⟩ := bnd he
    have hX : Z X 1 p l e rm_X10_cannot s m args below meth c 0 0 (MQ below (QI X 1 r N s.heap.size) args s 0 0 (AA X 1 s.heap.size)) 3 e_7.1 56 [(1, .int e_7.2)] [] := by
      refine z_iload_n S dX10_cannot_56 rfl 0 rfl ?_
      exact z_iret S (Prod.mk.inj (Option.some.inj he)) dX10_cannot_57
    have hZ9 := loopZ (f := (fun a_7 => f_X10_cannot_L13 a_7.1 a_7.2.1 a_7.2.2)) (Zh := (fun a_7 => Z X 1 p l e rm_X10_cannot s m args below meth c 0 0 (MQ below (QI X 1 r N s.heap.size) args s 0 0 (AA X 1 s.heap.size)) 3 a_7.1 13 [(0, .ref (X.2.2 109)), (1, .int a_7.2.1), (2, .int a_7.2.2)] [])) (fun a_7 x hb hc hr => p_X10_cannot_L13 S  hb hc (fun b hxe => by rw [hr b hxe]; exact hX)) FU (M2, 0, 1) hl
    exact hZ9
set_option maxRecDepth 100000 in
set_option maxHeartbeats 4000000 in
theorem K_X10_tomorrow {X : Cx} {l : Launch} {M : Mm} {N : Mm}  (he : f_X10_tomorrow M  = some N) : KV X 1 l yX10_tomorrow (wz yX10_tomorrow cX10_tomorrow 1 none) rm_X10_tomorrow [.ref (X.2.2 109)] M N := by
  intro sz
  refine K_of (Qc := (fun sz => QV X 1 N sz)) (own := RX10) (lv0 := [(0, .ref (X.2.2 109))]) (by decide +kernel) rfl (Nat.le_of_ble_eq_true rfl) rfl (fun p e s m args below meth c S => ?_) sz
  · unfold f_X10_tomorrow at he
    refine z_aload_n S dX10_tomorrow_0 rfl 0 rfl ?_
    obtain ⟨M1, h9, he⟩ := bnd he
    refine z_cVV (As := []) S cv_RX10_272 (K_X10_asks  h9) ok_109 (by decide) (q := (RX10, TX10, 28)) rfl rfl ⟨rfl, rfl⟩ ⟨Nat.le_of_ble_eq_true rfl, Nat.le_of_ble_eq_true rfl⟩ ⟨Nat.le_refl _, Nat.le_refl _⟩ rfl rfl (Nat.le_of_ble_eq_true rfl) dX10_tomorrow_1 ?_
    refine z_aload_n S dX10_tomorrow_4 rfl 0 rfl ?_
    refine z_iconst (v := 0) S dX10_tomorrow_5 (by decide) ?_
    obtain ⟨M2, h9, he⟩ := bnd he
    refine z_cVV (As := [.int 0]) S cv_RX10_275 (K_X10_leads  h9) ok_109 (by decide) (q := (RX10, TX10, 28)) rfl rfl ⟨rfl, rfl⟩ ⟨Nat.le_of_ble_eq_true rfl, Nat.le_of_ble_eq_true rfl⟩ ⟨Nat.le_refl _, Nat.le_refl _⟩ rfl rfl (Nat.le_of_ble_eq_true rfl) dX10_tomorrow_6 ?_
    exact z_vret S (Option.some.inj he) dX10_tomorrow_9
set_option maxRecDepth 100000 in
set_option maxHeartbeats 4000000 in
theorem p_X10_hadNow_L4 {X : Cx} {p : Program} {l : Launch} {e : Env} {s : State} {m : MethodId} {args : Array Value} {below : List Frame} {meth : Method} {c : Code} (S : SB X 1 p s m args meth c cX10_hadNow 3 (some .int) RX10) {M : Mm} {r : Int32} {v1 : Int32} {v2 : Int32} {x : (Int32 × Int32) ⊕ Int32}  (he : f_X10_hadNow_L4 M v1 v2 = some x) (hc : ∀ b, x = .inl b → Z X 1 p l e rm_X10_hadNow s m args below meth c 0 0 (MQ below (QI X 1 r M s.heap.size) args s 0 0 (AA X 1 s.heap.size)) 3 M 4 [(0, .ref (X.2.2 109)), (1, .int b.1), (2, .int b.2)] []) (hx : ∀ b, x = .inr b → Z X 1 p l e rm_X10_hadNow s m args below meth c 0 0 (MQ below (QI X 1 r M s.heap.size) args s 0 0 (AA X 1 s.heap.size)) 3 M 40 [(1, .int b)] []) : Z X 1 p l e rm_X10_hadNow s m args below meth c 0 0 (MQ below (QI X 1 r M s.heap.size) args s 0 0 (AA X 1 s.heap.size)) 3 M 4 [(0, .ref (X.2.2 109)), (1, .int v1), (2, .int v2)] [] := by
  unfold f_X10_hadNow_L4 at he
  refine z_iload_n S dX10_hadNow_4 rfl 2 rfl ?_
  refine z_aload_n S dX10_hadNow_5 rfl 0 rfl ?_
  refine z_getF (j := 110) S fo_RX10_7 1 rfl rfl ok_109 dX10_hadNow_6 ?_
  refine z_iconst (v := 4) S dX10_hadNow_9 (by decide) ?_
  refine z_iald S ok_110 rfl he dX10_hadNow_10 (fun he => ?_)
  refine z_icmp_ge (tgt := 40) S he dX10_hadNow_11 (by decide) (fun he => ?_) (fun he => ?_)
  · refine z_lv (ks := [1]) rfl ?_
    exact hx _ (Option.some.inj he).symm
  · refine z_iload_n S dX10_hadNow_14 rfl 1 rfl ?_
    refine z_aload_n S dX10_hadNow_15 rfl 0 rfl ?_
    refine z_getF (j := 117) S fo_RX10_35 8 rfl rfl ok_109 dX10_hadNow_16 ?_
    refine z_iload_n S dX10_hadNow_19 rfl 2 rfl ?_
    refine z_iald S ok_117 rfl he dX10_hadNow_20 (fun he => ?_)
    refine z_iconst (v := (-1)) S dX10_hadNow_21 (by decide) ?_
    refine z_icmp_eq (tgt := 31) S he dX10_hadNow_22 (by decide) (fun he => ?_) (fun he => ?_)
    · refine z_iconst (v := 0) S dX10_hadNow_31 (by decide) ?_
      refine z_ior S dX10_hadNow_32 ?_
      refine z_istore_n (lv' := [(0, .ref (X.2.2 109)), (1, .int (v1 ||| 0)), (2, .int v2)]) S [1, 0, 2] dX10_hadNow_33 rfl (by decide) rfl ?_
      refine z_iinc (v := (v2 + 1)) (lv' := [(0, .ref (X.2.2 109)), (1, .int (v1 ||| 0)), (2, .int (v2 + 1))]) S [1, 2, 0] 2 dX10_hadNow_34 rfl (by rfl) (by decide) rfl ?_
      refine z_goto (tgt := 4) S dX10_hadNow_37 (by decide) ?_
      refine z_lv (ks := [0, 1, 2]) rfl ?_
      exact hc _ (Option.some.inj he).symm
    · refine z_iconst (v := 1) S dX10_hadNow_25 (by decide) ?_
      refine z_iload_n S dX10_hadNow_26 rfl 2 rfl ?_
      refine z_ishl S dX10_hadNow_27 ?_
      refine z_goto (tgt := 32) S dX10_hadNow_28 (by decide) ?_
      refine z_ior S dX10_hadNow_32 ?_
      obtain ⟨x1, ex1, he⟩ := bnd he
      rw [Option.some.inj ex1]
      refine z_istore_n (lv' := [(0, .ref (X.2.2 109)), (1, .int x1), (2, .int v2)]) S [1, 0, 2] dX10_hadNow_33 rfl (by decide) rfl ?_
      refine z_iinc (v := (v2 + 1)) (lv' := [(0, .ref (X.2.2 109)), (1, .int x1), (2, .int (v2 + 1))]) S [1, 2, 0] 2 dX10_hadNow_34 rfl (by rfl) (by decide) rfl ?_
      refine z_goto (tgt := 4) S dX10_hadNow_37 (by decide) ?_
      refine z_lv (ks := [0, 1, 2]) rfl ?_
      exact hc _ (Option.some.inj he).symm
set_option maxRecDepth 100000 in
set_option maxHeartbeats 4000000 in
theorem K_X10_hadNow {X : Cx} {l : Launch} {M : Mm} {r : Int32}  (he : f_X10_hadNow M  = some r) : KI X 1 l yX10_hadNow (wz yX10_hadNow cX10_hadNow 3 (some .int)) rm_X10_hadNow [.ref (X.2.2 109)] M r M := by
  intro sz
  refine K_of (Qc := (fun sz => QI X 1 r M sz)) (own := RX10) (lv0 := [(0, .ref (X.2.2 109))]) (by decide +kernel) rfl (Nat.le_of_ble_eq_true rfl) rfl (fun p e s m args below meth c S => ?_) sz
  · unfold f_X10_hadNow at he
    refine z_iconst (v := 0) S dX10_hadNow_0 (by decide) ?_
    refine z_istore_n (lv' := [(0, .ref (X.2.2 109)), (1, .int 0)]) S [1, 0] dX10_hadNow_1 rfl (by decide) rfl ?_
    refine z_iconst (v := 0) S dX10_hadNow_2 (by decide) ?_
    refine z_istore_n (lv' := [(0, .ref (X.2.2 109)), (1, .int 0), (2, .int 0)]) S [1, 2, 0] dX10_hadNow_3 rfl (by decide) rfl ?_
    obtain ⟨e_2, hl, he⟩ := bnd he
    have hX : Z X 1 p l e rm_X10_hadNow s m args below meth c 0 0 (MQ below (QI X 1 r M s.heap.size) args s 0 0 (AA X 1 s.heap.size)) 3 M 40 [(1, .int e_2)] [] := by
      refine z_iload_n S dX10_hadNow_40 rfl 0 rfl ?_
      exact z_iret S (⟨Option.some.inj he, rfl⟩) dX10_hadNow_41
    have hZ9 := loopZ (f := (fun a_2 => f_X10_hadNow_L4 M a_2.1 a_2.2)) (Zh := (fun a_2 => Z X 1 p l e rm_X10_hadNow s m args below meth c 0 0 (MQ below (QI X 1 r M s.heap.size) args s 0 0 (AA X 1 s.heap.size)) 3 M 4 [(0, .ref (X.2.2 109)), (1, .int a_2.1), (2, .int a_2.2)] [])) (fun a_2 x hb hc hr => p_X10_hadNow_L4 S  hb hc (fun b hxe => by rw [hr b hxe]; exact hX)) FU (0, 0) hl
    exact hZ9
set_option maxRecDepth 100000 in
set_option maxHeartbeats 4000000 in
theorem K_X10_swap {X : Cx} {l : Launch} {M : Mm} {a1 : Int32} {a2 : Int32} {N : Mm}  (he : f_X10_swap M a1 a2 = some N) : KV X 1 l yX10_swap (wz yX10_swap cX10_swap 4 none) rm_X10_swap [.ref (X.2.2 109), .int a1, .int a2] M N := by
  intro sz
  refine K_of (Qc := (fun sz => QV X 1 N sz)) (own := RX10) (lv0 := [(0, .ref (X.2.2 109)), (1, .int a1), (2, .int a2)]) (by decide +kernel) rfl (Nat.le_of_ble_eq_true rfl) rfl (fun p e s m args below meth c S => ?_) sz
  · unfold f_X10_swap at he
    refine z_aload_n S dX10_swap_0 rfl 0 rfl ?_
    refine z_iload_n S dX10_swap_1 rfl 1 rfl ?_
    refine z_iconst (v := 0) S dX10_swap_2 (by decide) ?_
    obtain ⟨r1, h9, he⟩ := bnd he
    refine z_cVI (As := [.int a1, .int 0]) S cv_RX10_70 (K_X10_of  h9) ok_109 (by decide) (q := (RX10, TX10, 28)) rfl rfl ⟨rfl, rfl⟩ ⟨Nat.le_of_ble_eq_true rfl, Nat.le_of_ble_eq_true rfl⟩ ⟨Nat.le_refl _, Nat.le_refl _⟩ rfl rfl (Nat.le_of_ble_eq_true rfl) dX10_swap_3 ?_
    refine z_istore_n (lv' := [(0, .ref (X.2.2 109)), (1, .int a1), (2, .int a2), (3, .int r1)]) S [1, 2, 3, 0] dX10_swap_6 rfl (by decide) rfl ?_
    refine z_aload_n S dX10_swap_7 rfl 0 rfl ?_
    refine z_getF (j := 110) S fo_RX10_7 1 rfl rfl ok_109 dX10_swap_8 ?_
    refine z_bipush (v := 12) S dX10_swap_11 (by decide) ?_
    refine z_iconst (v := 5) S dX10_swap_13 (by decide) ?_
    refine z_iload_n S dX10_swap_14 rfl 1 rfl ?_
    refine z_imul S dX10_swap_15 ?_
    refine z_iadd S dX10_swap_16 ?_
    refine z_iconst (v := 0) S dX10_swap_17 (by decide) ?_
    refine z_iadd S dX10_swap_18 ?_
    refine z_aload_n S dX10_swap_19 rfl 0 rfl ?_
    refine z_iload_n S dX10_swap_20 rfl 2 rfl ?_
    refine z_iconst (v := 0) S dX10_swap_21 (by decide) ?_
    obtain ⟨r2, h9, he⟩ := bnd he
    refine z_cVI (As := [.int a2, .int 0]) S cv_RX10_70 (K_X10_of  h9) ok_109 (by decide) (q := (RX10, TX10, 28)) rfl rfl ⟨rfl, rfl⟩ ⟨Nat.le_of_ble_eq_true rfl, Nat.le_of_ble_eq_true rfl⟩ ⟨Nat.le_refl _, Nat.le_refl _⟩ rfl rfl (Nat.le_of_ble_eq_true rfl) dX10_swap_22 ?_
    refine z_iastb S ok_110 rfl he dX10_swap_25 (fun M3 he => ?_)
    refine z_aload_n S dX10_swap_26 rfl 0 rfl ?_
    refine z_getF (j := 110) S fo_RX10_7 1 rfl rfl ok_109 dX10_swap_27 ?_
    refine z_bipush (v := 12) S dX10_swap_30 (by decide) ?_
    refine z_iconst (v := 5) S dX10_swap_32 (by decide) ?_
    refine z_iload_n S dX10_swap_33 rfl 2 rfl ?_
    refine z_imul S dX10_swap_34 ?_
    refine z_iadd S dX10_swap_35 ?_
    refine z_iconst (v := 0) S dX10_swap_36 (by decide) ?_
    refine z_iadd S dX10_swap_37 ?_
    refine z_iload_n S dX10_swap_38 rfl 3 rfl ?_
    refine z_iastb S ok_110 rfl he dX10_swap_39 (fun M4 he => ?_)
    exact z_vret S (Option.some.inj he) dX10_swap_40
set_option maxRecDepth 100000 in
set_option maxHeartbeats 4000000 in
theorem p_X10_change_L39 {X : Cx} {p : Program} {l : Launch} {e : Env} {s : State} {m : MethodId} {args : Array Value} {below : List Frame} {meth : Method} {c : Code} (S : SB X 1 p s m args meth c cX10_change 7 (some .int) RX10) {M : Mm} {N : Mm} {r : Int32} {v1 : Int32} {v2 : Int32} {v3 : Int32} {v4 : Int32} {v5 : Int32} {x : (Mm × Int32 × Int32 × Int32) ⊕ (Mm × Int32 × Int32)}  (he : f_X10_change_L39 M v1 v2 v3 v4 v5 = some x) (hc : ∀ b, x = .inl b → Z X 1 p l e rm_X10_change s m args below meth c 0 0 (MQ below (QI X 1 r N s.heap.size) args s 0 0 (AA X 1 s.heap.size)) 7 b.1 39 [(0, .ref (X.2.2 109)), (1, .int v1), (2, .int b.2.1), (3, .int b.2.2.1), (4, .int v4), (5, .int b.2.2.2)] []) (hx : ∀ b, x = .inr b → Z X 1 p l e rm_X10_change s m args below meth c 0 0 (MQ below (QI X 1 r N s.heap.size) args s 0 0 (AA X 1 s.heap.size)) 7 b.1 106 [(0, .ref (X.2.2 109)), (1, .int v1), (2, .int b.2.1), (3, .int b.2.2), (4, .int v4)] []) : Z X 1 p l e rm_X10_change s m args below meth c 0 0 (MQ below (QI X 1 r N s.heap.size) args s 0 0 (AA X 1 s.heap.size)) 7 M 39 [(0, .ref (X.2.2 109)), (1, .int v1), (2, .int v2), (3, .int v3), (4, .int v4), (5, .int v5)] [] := by
  unfold f_X10_change_L39 at he
  refine z_iload S dX10_change_39 5 rfl ?_
  refine z_aload_n S dX10_change_41 rfl 0 rfl ?_
  refine z_getF (j := 110) S fo_RX10_7 1 rfl rfl ok_109 dX10_change_42 ?_
  refine z_iconst (v := 3) S dX10_change_45 (by decide) ?_
  refine z_iald S ok_110 rfl he dX10_change_46 (fun he => ?_)
  refine z_icmp_ge (tgt := 106) S he dX10_change_47 (by decide) (fun he => ?_) (fun he => ?_)
  · refine z_lv (ks := [0, 1, 2, 3, 4]) rfl ?_
    exact hx _ (Option.some.inj he).symm
  · refine z_aload_n S dX10_change_50 rfl 0 rfl ?_
    refine z_iload S dX10_change_51 4 rfl ?_
    refine z_iload S dX10_change_53 5 rfl ?_
    obtain ⟨M5, h9, he⟩ := bnd he
    refine z_cVV (As := [.int v4, .int v5]) S cv_RX10_337 (K_X10_swap  h9) ok_109 (by decide) (q := (RX10, TX10, 28)) rfl rfl ⟨rfl, rfl⟩ ⟨Nat.le_of_ble_eq_true rfl, Nat.le_of_ble_eq_true rfl⟩ ⟨Nat.le_refl _, Nat.le_refl _⟩ rfl rfl (Nat.le_of_ble_eq_true rfl) dX10_change_55 ?_
    refine z_aload_n S dX10_change_58 rfl 0 rfl ?_
    obtain ⟨M6, h9, he⟩ := bnd he
    refine z_cVV (As := []) S cv_RX10_288 (K_X10_tomorrow  h9) ok_109 (by decide) (q := (RX10, TX10, 28)) rfl rfl ⟨rfl, rfl⟩ ⟨Nat.le_of_ble_eq_true rfl, Nat.le_of_ble_eq_true rfl⟩ ⟨Nat.le_refl _, Nat.le_refl _⟩ rfl rfl (Nat.le_of_ble_eq_true rfl) dX10_change_59 ?_
    refine z_aload_n S dX10_change_62 rfl 0 rfl ?_
    refine z_iload S dX10_change_63 4 rfl ?_
    refine z_iload S dX10_change_65 5 rfl ?_
    obtain ⟨M7, h9, he⟩ := bnd he
    refine z_cVV (As := [.int v4, .int v5]) S cv_RX10_337 (K_X10_swap  h9) ok_109 (by decide) (q := (RX10, TX10, 28)) rfl rfl ⟨rfl, rfl⟩ ⟨Nat.le_of_ble_eq_true rfl, Nat.le_of_ble_eq_true rfl⟩ ⟨Nat.le_refl _, Nat.le_refl _⟩ rfl rfl (Nat.le_of_ble_eq_true rfl) dX10_change_67 ?_
    refine z_aload_n S dX10_change_70 rfl 0 rfl ?_
    obtain ⟨r8, h9, he⟩ := bnd he
    refine z_cVI (As := []) S cv_RX10_312 (K_X10_hadNow  h9) ok_109 (by decide) (q := (RX10, TX10, 28)) rfl rfl ⟨rfl, rfl⟩ ⟨Nat.le_of_ble_eq_true rfl, Nat.le_of_ble_eq_true rfl⟩ ⟨Nat.le_refl _, Nat.le_refl _⟩ rfl rfl (Nat.le_of_ble_eq_true rfl) dX10_change_71 ?_
    obtain ⟨r9, h9, he⟩ := bnd he
    refine z_cSI (As := [.int r8]) S cs_RX10_321 (K_X10_bits  h9) ⟨rfl, rfl⟩ ⟨Nat.le_of_ble_eq_true rfl, Nat.le_of_ble_eq_true rfl⟩ ⟨Nat.le_refl _, Nat.le_refl _⟩ rfl rfl (Nat.le_of_ble_eq_true rfl) dX10_change_74 ?_
    refine z_istore (lv' := [(0, .ref (X.2.2 109)), (1, .int v1), (2, .int v2), (3, .int v3), (4, .int v4), (5, .int v5), (6, .int r9)]) S [1, 2, 3, 4, 5, 6, 0] dX10_change_77 (by decide) rfl ?_
    refine z_iload S dX10_change_79 6 rfl ?_
    refine z_iload_n S dX10_change_81 rfl 2 rfl ?_
    refine z_icmp_gt (tgt := 88) S he dX10_change_82 (by decide) (fun he => ?_) (fun he => ?_)
    · refine z_iload S dX10_change_88 6 rfl ?_
      refine z_istore_n (lv' := [(0, .ref (X.2.2 109)), (1, .int v1), (2, .int r9), (4, .int v4), (5, .int v5)]) S [1, 2, 0, 4, 5] dX10_change_90 rfl (by decide) rfl ?_
      refine z_bipush (v := 10) S dX10_change_91 (by decide) ?_
      refine z_iload S dX10_change_93 3 rfl ?_
      refine z_imul S dX10_change_95 ?_
      refine z_iload S dX10_change_96 4 rfl ?_
      refine z_iadd S dX10_change_98 ?_
      refine z_istore_n (lv' := [(0, .ref (X.2.2 109)), (1, .int v1), (2, .int r9), (3, .int ((10 * v4) + v5)), (4, .int v4), (5, .int v5)]) S [1, 2, 3, 0, 4, 5] dX10_change_99 rfl (by decide) rfl ?_
      refine z_iinc (v := (v5 + 1)) (lv' := [(0, .ref (X.2.2 109)), (1, .int v1), (2, .int r9), (3, .int ((10 * v4) + v5)), (4, .int v4), (5, .int (v5 + 1))]) S [1, 2, 3, 4, 5, 0] 5 dX10_change_100 rfl (by rfl) (by decide) rfl ?_
      refine z_goto (tgt := 39) S dX10_change_103 (by decide) ?_
      refine z_lv (ks := [0, 1, 2, 3, 4, 5]) rfl ?_
      exact hc _ (Option.some.inj he).symm
    · refine z_goto (tgt := 100) S dX10_change_85 (by decide) ?_
      refine z_iinc (v := (v5 + 1)) (lv' := [(0, .ref (X.2.2 109)), (1, .int v1), (2, .int v2), (3, .int v3), (4, .int v4), (5, .int (v5 + 1)), (6, .int r9)]) S [1, 2, 3, 4, 5, 0, 6] 5 dX10_change_100 rfl (by rfl) (by decide) rfl ?_
      refine z_goto (tgt := 39) S dX10_change_103 (by decide) ?_
      refine z_lv (ks := [0, 1, 2, 3, 4, 5]) rfl ?_
      exact hc _ (Option.some.inj he).symm
set_option maxRecDepth 100000 in
set_option maxHeartbeats 4000000 in
theorem p_X10_change_L22 {X : Cx} {p : Program} {l : Launch} {e : Env} {s : State} {m : MethodId} {args : Array Value} {below : List Frame} {meth : Method} {c : Code} (S : SB X 1 p s m args meth c cX10_change 7 (some .int) RX10) {M : Mm} {N : Mm} {r : Int32} {v1 : Int32} {v2 : Int32} {v3 : Int32} {v4 : Int32} {x : (Mm × Int32 × Int32 × Int32) ⊕ (Mm × Int32 × Int32)}  (he : f_X10_change_L22 M v1 v2 v3 v4 = some x) (hc : ∀ b, x = .inl b → Z X 1 p l e rm_X10_change s m args below meth c 0 0 (MQ below (QI X 1 r N s.heap.size) args s 0 0 (AA X 1 s.heap.size)) 7 b.1 22 [(0, .ref (X.2.2 109)), (1, .int v1), (2, .int b.2.1), (3, .int b.2.2.1), (4, .int b.2.2.2)] []) (hx : ∀ b, x = .inr b → Z X 1 p l e rm_X10_change s m args below meth c 0 0 (MQ below (QI X 1 r N s.heap.size) args s 0 0 (AA X 1 s.heap.size)) 7 b.1 112 [(1, .int v1), (2, .int b.2.1), (3, .int b.2.2)] []) : Z X 1 p l e rm_X10_change s m args below meth c 0 0 (MQ below (QI X 1 r N s.heap.size) args s 0 0 (AA X 1 s.heap.size)) 7 M 22 [(0, .ref (X.2.2 109)), (1, .int v1), (2, .int v2), (3, .int v3), (4, .int v4)] [] := by
  unfold f_X10_change_L22 at he
  refine z_iload S dX10_change_22 4 rfl ?_
  refine z_aload_n S dX10_change_24 rfl 0 rfl ?_
  refine z_getF (j := 110) S fo_RX10_7 1 rfl rfl ok_109 dX10_change_25 ?_
  refine z_iconst (v := 3) S dX10_change_28 (by decide) ?_
  refine z_iald S ok_110 rfl he dX10_change_29 (fun he => ?_)
  refine z_icmp_ge (tgt := 112) S he dX10_change_30 (by decide) (fun he => ?_) (fun he => ?_)
  · refine z_lv (ks := [1, 2, 3]) rfl ?_
    exact hx _ (Option.some.inj he).symm
  · refine z_iload S dX10_change_33 4 rfl ?_
    refine z_iconst (v := 1) S dX10_change_35 (by decide) ?_
    refine z_iadd S dX10_change_36 ?_
    refine z_istore (lv' := [(0, .ref (X.2.2 109)), (1, .int v1), (2, .int v2), (3, .int v3), (4, .int v4), (5, .int (v4 + 1))]) S [1, 2, 3, 4, 5, 0] dX10_change_37 (by decide) rfl ?_
    obtain ⟨e_10, hl, he⟩ := bnd he
    have hX : Z X 1 p l e rm_X10_change s m args below meth c 0 0 (MQ below (QI X 1 r N s.heap.size) args s 0 0 (AA X 1 s.heap.size)) 7 e_10.1 106 [(0, .ref (X.2.2 109)), (1, .int v1), (2, .int e_10.2.1), (3, .int e_10.2.2), (4, .int v4)] [] := by
      refine z_iinc (v := (v4 + 1)) (lv' := [(0, .ref (X.2.2 109)), (1, .int v1), (2, .int e_10.2.1), (3, .int e_10.2.2), (4, .int (v4 + 1))]) S [1, 2, 3, 4, 0] 4 dX10_change_106 rfl (by rfl) (by decide) rfl ?_
      refine z_goto (tgt := 22) S dX10_change_109 (by decide) ?_
      refine z_lv (ks := [0, 1, 2, 3, 4]) rfl ?_
      exact hc _ (Option.some.inj he).symm
    have hZ9 := loopZ (f := (fun a_10 => f_X10_change_L39 a_10.1 v1 a_10.2.1 a_10.2.2.1 v4 a_10.2.2.2)) (Zh := (fun a_10 => Z X 1 p l e rm_X10_change s m args below meth c 0 0 (MQ below (QI X 1 r N s.heap.size) args s 0 0 (AA X 1 s.heap.size)) 7 a_10.1 39 [(0, .ref (X.2.2 109)), (1, .int v1), (2, .int a_10.2.1), (3, .int a_10.2.2.1), (4, .int v4), (5, .int a_10.2.2.2)] [])) (fun a_10 x hb hc hr => p_X10_change_L39 S  hb hc (fun b hxe => by rw [hr b hxe]; exact hX)) FU (M, v2, v3, (v4 + 1)) hl
    exact hZ9
set_option maxRecDepth 100000 in
set_option maxHeartbeats 4000000 in
theorem K_X10_change {X : Cx} {l : Launch} {M : Mm} {a1 : Int32} {r : Int32} {N : Mm}  (he : f_X10_change M a1 = some (r, N)) : KI X 1 l yX10_change (wz yX10_change cX10_change 7 (some .int)) rm_X10_change [.ref (X.2.2 109), .int a1] M r N := by
  intro sz
  refine K_of (Qc := (fun sz => QI X 1 r N sz)) (own := RX10) (lv0 := [(0, .ref (X.2.2 109)), (1, .int a1)]) (by decide +kernel) rfl (Nat.le_of_ble_eq_true rfl) rfl (fun p e s m args below meth c S => ?_) sz
  · unfold f_X10_change at he
    refine z_aload_n S dX10_change_0 rfl 0 rfl ?_
    refine z_iconst (v := 0) S dX10_change_1 (by decide) ?_
    refine z_putIb S fo_RX10_63p rfl ok_109 rfl rfl he dX10_change_2 (fun M1 he => ?_)
    refine z_aload_n S dX10_change_5 rfl 0 rfl ?_
    obtain ⟨M2, h9, he⟩ := bnd he
    refine z_cVV (As := []) S cv_RX10_288 (K_X10_tomorrow  h9) ok_109 (by decide) (q := (RX10, TX10, 28)) rfl rfl ⟨rfl, rfl⟩ ⟨Nat.le_of_ble_eq_true rfl, Nat.le_of_ble_eq_true rfl⟩ ⟨Nat.le_refl _, Nat.le_refl _⟩ rfl rfl (Nat.le_of_ble_eq_true rfl) dX10_change_6 ?_
    refine z_aload_n S dX10_change_9 rfl 0 rfl ?_
    obtain ⟨r3, h9, he⟩ := bnd he
    refine z_cVI (As := []) S cv_RX10_312 (K_X10_hadNow  h9) ok_109 (by decide) (q := (RX10, TX10, 28)) rfl rfl ⟨rfl, rfl⟩ ⟨Nat.le_of_ble_eq_true rfl, Nat.le_of_ble_eq_true rfl⟩ ⟨Nat.le_refl _, Nat.le_refl _⟩ rfl rfl (Nat.le_of_ble_eq_true rfl) dX10_change_10 ?_
    obtain ⟨r4, h9, he⟩ := bnd he
    refine z_cSI (As := [.int r3]) S cs_RX10_321 (K_X10_bits  h9) ⟨rfl, rfl⟩ ⟨Nat.le_of_ble_eq_true rfl, Nat.le_of_ble_eq_true rfl⟩ ⟨Nat.le_refl _, Nat.le_refl _⟩ rfl rfl (Nat.le_of_ble_eq_true rfl) dX10_change_13 ?_
    refine z_istore_n (lv' := [(0, .ref (X.2.2 109)), (1, .int a1), (2, .int r4)]) S [1, 2, 0] dX10_change_16 rfl (by decide) rfl ?_
    refine z_iconst (v := (-1)) S dX10_change_17 (by decide) ?_
    refine z_istore_n (lv' := [(0, .ref (X.2.2 109)), (1, .int a1), (2, .int r4), (3, .int (-1))]) S [1, 2, 3, 0] dX10_change_18 rfl (by decide) rfl ?_
    refine z_iconst (v := 0) S dX10_change_19 (by decide) ?_
    refine z_istore (lv' := [(0, .ref (X.2.2 109)), (1, .int a1), (2, .int r4), (3, .int (-1)), (4, .int 0)]) S [1, 2, 3, 4, 0] dX10_change_20 (by decide) rfl ?_
    obtain ⟨e_11, hl, he⟩ := bnd he
    have hX : Z X 1 p l e rm_X10_change s m args below meth c 0 0 (MQ below (QI X 1 r N s.heap.size) args s 0 0 (AA X 1 s.heap.size)) 7 e_11.1 112 [(1, .int a1), (2, .int e_11.2.1), (3, .int e_11.2.2)] [] := by
      refine z_iload_n S dX10_change_112 rfl 0 rfl ?_
      refine z_if_eq (tgt := 120) S he dX10_change_113 (by decide) (fun he => ?_) (fun he => ?_)
      · refine z_iload_n S dX10_change_120 rfl 2 rfl ?_
        exact z_iret S (Prod.mk.inj (Option.some.inj he)) dX10_change_121
      · refine z_iload_n S dX10_change_116 rfl 1 rfl ?_
        refine z_goto (tgt := 121) S dX10_change_117 (by decide) ?_
        exact z_iret S (Prod.mk.inj (Option.some.inj he)) dX10_change_121
    have hZ9 := loopZ (f := (fun a_11 => f_X10_change_L22 a_11.1 a1 a_11.2.1 a_11.2.2.1 a_11.2.2.2)) (Zh := (fun a_11 => Z X 1 p l e rm_X10_change s m args below meth c 0 0 (MQ below (QI X 1 r N s.heap.size) args s 0 0 (AA X 1 s.heap.size)) 7 a_11.1 22 [(0, .ref (X.2.2 109)), (1, .int a1), (2, .int a_11.2.1), (3, .int a_11.2.2.1), (4, .int a_11.2.2.2)] [])) (fun a_11 x hb hc hr => p_X10_change_L22 S  hb hc (fun b hxe => by rw [hr b hxe]; exact hX)) FU (M2, r4, (-1), 0) hl
    exact hZ9
set_option maxRecDepth 100000 in
set_option maxHeartbeats 4000000 in
theorem p_X10_remembers_L52 {X : Cx} {p : Program} {l : Launch} {e : Env} {s : State} {m : MethodId} {args : Array Value} {below : List Frame} {meth : Method} {c : Code} (S : SB X 1 p s m args meth c cX10_remembers 2 none RX10) {M : Mm} {N : Mm} {v1 : Int32} {x : (Mm × Int32) ⊕ Mm}  (he : f_X10_remembers_L52 M v1 = some x) (hc : ∀ b, x = .inl b → Z X 1 p l e rm_X10_remembers s m args below meth c 0 0 (MQ below (QV X 1 N s.heap.size) args s 0 0 (AA X 1 s.heap.size)) 2 b.1 52 [(0, .ref (X.2.2 109)), (1, .int b.2)] []) (hx : ∀ b, x = .inr b → Z X 1 p l e rm_X10_remembers s m args below meth c 0 0 (MQ below (QV X 1 N s.heap.size) args s 0 0 (AA X 1 s.heap.size)) 2 b 86 [(0, .ref (X.2.2 109))] []) : Z X 1 p l e rm_X10_remembers s m args below meth c 0 0 (MQ below (QV X 1 N s.heap.size) args s 0 0 (AA X 1 s.heap.size)) 2 M 52 [(0, .ref (X.2.2 109)), (1, .int v1)] [] := by
  unfold f_X10_remembers_L52 at he
  refine z_iload_n S dX10_remembers_52 rfl 1 rfl ?_
  refine z_sipush (v := 407) S dX10_remembers_53 (by decide) ?_
  refine z_icmp_ge (tgt := 86) S he dX10_remembers_56 (by decide) (fun he => ?_) (fun he => ?_)
  · refine z_lv (ks := [0]) rfl ?_
    exact hx _ (Option.some.inj he).symm
  · refine z_aload_n S dX10_remembers_59 rfl 0 rfl ?_
    refine z_getF (j := 113) S fo_RX10_19 4 rfl rfl ok_109 dX10_remembers_60 ?_
    refine z_sipush (v := 407) S dX10_remembers_63 (by decide) ?_
    refine z_aload_n S dX10_remembers_66 rfl 0 rfl ?_
    refine z_getI S fo_RX10_184 rfl ok_109 dX10_remembers_67 ?_
    refine z_imul S dX10_remembers_70 ?_
    refine z_iload_n S dX10_remembers_71 rfl 1 rfl ?_
    refine z_iadd S dX10_remembers_72 ?_
    refine z_aload_n S dX10_remembers_73 rfl 0 rfl ?_
    refine z_getF (j := 110) S fo_RX10_7 1 rfl rfl ok_109 dX10_remembers_74 ?_
    refine z_iload_n S dX10_remembers_77 rfl 1 rfl ?_
    refine z_iald S ok_110 rfl he dX10_remembers_78 (fun he => ?_)
    refine z_iastb S ok_113 rfl he dX10_remembers_79 (fun M1 he => ?_)
    refine z_iinc (v := (v1 + 1)) (lv' := [(0, .ref (X.2.2 109)), (1, .int (v1 + 1))]) S [1, 0] 1 dX10_remembers_80 rfl (by rfl) (by decide) rfl ?_
    refine z_goto (tgt := 52) S dX10_remembers_83 (by decide) ?_
    refine z_lv (ks := [0, 1]) rfl ?_
    exact hc _ (Option.some.inj he).symm
set_option maxRecDepth 100000 in
set_option maxHeartbeats 4000000 in
theorem p_X10_remembers_J50 {X : Cx} {p : Program} {l : Launch} {e : Env} {s : State} {m : MethodId} {args : Array Value} {below : List Frame} {meth : Method} {c : Code} (S : SB X 1 p s m args meth c cX10_remembers 2 none RX10) {M : Mm} {N : Mm}  (he : f_X10_remembers_J50 M  = some N) : Z X 1 p l e rm_X10_remembers s m args below meth c 0 0 (MQ below (QV X 1 N s.heap.size) args s 0 0 (AA X 1 s.heap.size)) 2 M 50 [(0, .ref (X.2.2 109))] [] := by
  unfold f_X10_remembers_J50 at he
  refine z_iconst (v := 0) S dX10_remembers_50 (by decide) ?_
  refine z_istore_n (lv' := [(0, .ref (X.2.2 109)), (1, .int 0)]) S [1, 0] dX10_remembers_51 rfl (by decide) rfl ?_
  obtain ⟨e_2, hl, he⟩ := bnd he
  have hX : Z X 1 p l e rm_X10_remembers s m args below meth c 0 0 (MQ below (QV X 1 N s.heap.size) args s 0 0 (AA X 1 s.heap.size)) 2 e_2 86 [(0, .ref (X.2.2 109))] [] := by
    refine z_aload_n S dX10_remembers_86 rfl 0 rfl ?_
    refine z_dup S rfl dX10_remembers_87 ?_
    refine z_getI S fo_RX10_184 rfl ok_109 dX10_remembers_88 ?_
    refine z_iconst (v := 1) S dX10_remembers_91 (by decide) ?_
    refine z_iadd S dX10_remembers_92 ?_
    refine z_putIb S fo_RX10_184p rfl ok_109 rfl rfl he dX10_remembers_93 (fun M3 he => ?_)
    exact z_vret S (Option.some.inj he) dX10_remembers_96
  have hZ9 := loopZ (f := (fun a_2 => f_X10_remembers_L52 a_2.1 a_2.2)) (Zh := (fun a_2 => Z X 1 p l e rm_X10_remembers s m args below meth c 0 0 (MQ below (QV X 1 N s.heap.size) args s 0 0 (AA X 1 s.heap.size)) 2 a_2.1 52 [(0, .ref (X.2.2 109)), (1, .int a_2.2)] [])) (fun a_2 x hb hc hr => p_X10_remembers_L52 S  hb hc (fun b hxe => by rw [hr b hxe]; exact hX)) FU (M, 0) hl
  exact hZ9
set_option maxRecDepth 100000 in
set_option maxHeartbeats 4000000 in
theorem p_X10_remembers_L11 {X : Cx} {p : Program} {l : Launch} {e : Env} {s : State} {m : MethodId} {args : Array Value} {below : List Frame} {meth : Method} {c : Code} (S : SB X 1 p s m args meth c cX10_remembers 2 none RX10) {M : Mm} {N : Mm} {v1 : Int32} {x : (Mm × Int32) ⊕ Mm}  (he : f_X10_remembers_L11 M v1 = some x) (hc : ∀ b, x = .inl b → Z X 1 p l e rm_X10_remembers s m args below meth c 0 0 (MQ below (QV X 1 N s.heap.size) args s 0 0 (AA X 1 s.heap.size)) 2 b.1 11 [(0, .ref (X.2.2 109)), (1, .int b.2)] []) (hx : ∀ b, x = .inr b → Z X 1 p l e rm_X10_remembers s m args below meth c 0 0 (MQ below (QV X 1 N s.heap.size) args s 0 0 (AA X 1 s.heap.size)) 2 b 40 [(0, .ref (X.2.2 109))] []) : Z X 1 p l e rm_X10_remembers s m args below meth c 0 0 (MQ below (QV X 1 N s.heap.size) args s 0 0 (AA X 1 s.heap.size)) 2 M 11 [(0, .ref (X.2.2 109)), (1, .int v1)] [] := by
  unfold f_X10_remembers_L11 at he
  refine z_iload_n S dX10_remembers_11 rfl 1 rfl ?_
  refine z_sipush (v := 4477) S dX10_remembers_12 (by decide) ?_
  refine z_icmp_ge (tgt := 40) S he dX10_remembers_15 (by decide) (fun he => ?_) (fun he => ?_)
  · refine z_lv (ks := [0]) rfl ?_
    exact hx _ (Option.some.inj he).symm
  · refine z_aload_n S dX10_remembers_18 rfl 0 rfl ?_
    refine z_getF (j := 113) S fo_RX10_19 4 rfl rfl ok_109 dX10_remembers_19 ?_
    refine z_iload_n S dX10_remembers_22 rfl 1 rfl ?_
    refine z_aload_n S dX10_remembers_23 rfl 0 rfl ?_
    refine z_getF (j := 113) S fo_RX10_19 4 rfl rfl ok_109 dX10_remembers_24 ?_
    refine z_iload_n S dX10_remembers_27 rfl 1 rfl ?_
    refine z_sipush (v := 407) S dX10_remembers_28 (by decide) ?_
    refine z_iadd S dX10_remembers_31 ?_
    refine z_iald S ok_113 rfl he dX10_remembers_32 (fun he => ?_)
    refine z_iastb S ok_113 rfl he dX10_remembers_33 (fun M4 he => ?_)
    refine z_iinc (v := (v1 + 1)) (lv' := [(0, .ref (X.2.2 109)), (1, .int (v1 + 1))]) S [1, 0] 1 dX10_remembers_34 rfl (by rfl) (by decide) rfl ?_
    refine z_goto (tgt := 11) S dX10_remembers_37 (by decide) ?_
    refine z_lv (ks := [0, 1]) rfl ?_
    exact hc _ (Option.some.inj he).symm
set_option maxRecDepth 100000 in
set_option maxHeartbeats 4000000 in
theorem K_X10_remembers {X : Cx} {l : Launch} {M : Mm} {N : Mm}  (he : f_X10_remembers M  = some N) : KV X 1 l yX10_remembers (wz yX10_remembers cX10_remembers 2 none) rm_X10_remembers [.ref (X.2.2 109)] M N := by
  intro sz
  refine K_of (Qc := (fun sz => QV X 1 N sz)) (own := RX10) (lv0 := [(0, .ref (X.2.2 109))]) (by decide +kernel) rfl (Nat.le_of_ble_eq_true rfl) rfl (fun p e s m args below meth c S => ?_) sz
  · unfold f_X10_remembers at he
    refine z_aload_n S dX10_remembers_0 rfl 0 rfl ?_
    refine z_getI S fo_RX10_184 rfl ok_109 dX10_remembers_1 ?_
    refine z_bipush (v := 12) S dX10_remembers_4 (by decide) ?_
    refine z_icmp_ne (tgt := 50) S he dX10_remembers_6 (by decide) (fun he => ?_) (fun he => ?_)
    · exact p_X10_remembers_J50 S  he
    · refine z_iconst (v := 0) S dX10_remembers_9 (by decide) ?_
      refine z_istore_n (lv' := [(0, .ref (X.2.2 109)), (1, .int 0)]) S [1, 0] dX10_remembers_10 rfl (by decide) rfl ?_
      obtain ⟨e_5, hl, he⟩ := bnd he
      have hX : Z X 1 p l e rm_X10_remembers s m args below meth c 0 0 (MQ below (QV X 1 N s.heap.size) args s 0 0 (AA X 1 s.heap.size)) 2 e_5 40 [(0, .ref (X.2.2 109))] [] := by
        refine z_aload_n S dX10_remembers_40 rfl 0 rfl ?_
        refine z_dup S rfl dX10_remembers_41 ?_
        refine z_getI S fo_RX10_184 rfl ok_109 dX10_remembers_42 ?_
        refine z_iconst (v := 1) S dX10_remembers_45 (by decide) ?_
        refine z_isub S dX10_remembers_46 ?_
        refine z_putIb S fo_RX10_184p rfl ok_109 rfl rfl he dX10_remembers_47 (fun M6 he => ?_)
        exact p_X10_remembers_J50 S  he
      have hZ9 := loopZ (f := (fun a_5 => f_X10_remembers_L11 a_5.1 a_5.2)) (Zh := (fun a_5 => Z X 1 p l e rm_X10_remembers s m args below meth c 0 0 (MQ below (QV X 1 N s.heap.size) args s 0 0 (AA X 1 s.heap.size)) 2 a_5.1 11 [(0, .ref (X.2.2 109)), (1, .int a_5.2)] [])) (fun a_5 x hb hc hr => p_X10_remembers_L11 S  hb hc (fun b hxe => by rw [hr b hxe]; exact hX)) FU (M, 0) hl
      exact hZ9
set_option maxRecDepth 100000 in
set_option maxHeartbeats 4000000 in
theorem p_X10_clean_J28 {X : Cx} {p : Program} {l : Launch} {e : Env} {s : State} {m : MethodId} {args : Array Value} {below : List Frame} {meth : Method} {c : Code} (S : SB X 1 p s m args meth c cX10_clean 4 (some .int) RX10) {M : Mm} {N : Mm} {r : Int32} {v1 : Int32} {v2 : Int32} {t0 : Int32}  (he : f_X10_clean_J28 M v1 v2 t0 = some (r, N)) : Z X 1 p l e rm_X10_clean s m args below meth c 0 0 (MQ below (QI X 1 r N s.heap.size) args s 0 0 (AA X 1 s.heap.size)) 4 M 28 [(0, .ref (X.2.2 109)), (1, .int v1), (2, .int v2)] [.int t0, .ref (X.2.2 109)] := by
  unfold f_X10_clean_J28 at he
  refine z_putIb S fo_RX10_63p rfl ok_109 rfl rfl he dX10_clean_28 (fun M2 he => ?_)
  refine z_aload_n S dX10_clean_31 rfl 0 rfl ?_
  refine z_getI S fo_RX10_63 rfl ok_109 dX10_clean_32 ?_
  refine z_if_le (tgt := 40) S he dX10_clean_35 (by decide) (fun he => ?_) (fun he => ?_)
  · refine z_aload_n S dX10_clean_40 rfl 0 rfl ?_
    obtain ⟨M3, h9, he⟩ := bnd he
    refine z_cVV (As := []) S cv_RX10_306 (K_X10_remembers  h9) ok_109 (by decide) (q := (RX10, TX10, 28)) rfl rfl ⟨rfl, rfl⟩ ⟨Nat.le_of_ble_eq_true rfl, Nat.le_of_ble_eq_true rfl⟩ ⟨Nat.le_refl _, Nat.le_refl _⟩ rfl rfl (Nat.le_of_ble_eq_true rfl) dX10_clean_41 ?_
    refine z_aload_n S dX10_clean_44 rfl 0 rfl ?_
    refine z_iload_n S dX10_clean_45 rfl 1 rfl ?_
    refine z_iconst (v := 1) S dX10_clean_46 (by decide) ?_
    obtain ⟨r4, h9, he⟩ := bnd he
    refine z_cVI (As := [.int v1, .int 1]) S cv_RX10_246 (K_X10_ofOne  h9) ok_109 (by decide) (q := (RX10, TX10, 28)) rfl rfl ⟨rfl, rfl⟩ ⟨Nat.le_of_ble_eq_true rfl, Nat.le_of_ble_eq_true rfl⟩ ⟨Nat.le_refl _, Nat.le_refl _⟩ rfl rfl (Nat.le_of_ble_eq_true rfl) dX10_clean_47 ?_
    refine z_istore_n (lv' := [(0, .ref (X.2.2 109)), (1, .int v1), (2, .int v2), (3, .int r4)]) S [1, 2, 3, 0] dX10_clean_50 rfl (by decide) rfl ?_
    refine z_aload_n S dX10_clean_51 rfl 0 rfl ?_
    refine z_getF (j := 110) S fo_RX10_7 1 rfl rfl ok_109 dX10_clean_52 ?_
    refine z_bipush (v := 57) S dX10_clean_55 (by decide) ?_
    refine z_iconst (v := 5) S dX10_clean_57 (by decide) ?_
    refine z_iload_n S dX10_clean_58 rfl 1 rfl ?_
    refine z_imul S dX10_clean_59 ?_
    refine z_iadd S dX10_clean_60 ?_
    refine z_iconst (v := 1) S dX10_clean_61 (by decide) ?_
    refine z_iadd S dX10_clean_62 ?_
    refine z_iload_n S dX10_clean_63 rfl 2 rfl ?_
    refine z_iastb S ok_110 rfl he dX10_clean_64 (fun M5 he => ?_)
    refine z_iload_n S dX10_clean_65 rfl 3 rfl ?_
    exact z_iret S (Prod.mk.inj (Option.some.inj he)) dX10_clean_66
  · refine z_iconst (v := 0) S dX10_clean_38 (by decide) ?_
    exact z_iret S (Prod.mk.inj (Option.some.inj he)) dX10_clean_39
set_option maxRecDepth 100000 in
set_option maxHeartbeats 4000000 in
theorem K_X10_clean {X : Cx} {l : Launch} {M : Mm} {a1 : Int32} {a2 : Int32} {r : Int32} {N : Mm}  (he : f_X10_clean M a1 a2 = some (r, N)) : KI X 1 l yX10_clean (wz yX10_clean cX10_clean 4 (some .int)) rm_X10_clean [.ref (X.2.2 109), .int a1, .int a2] M r N := by
  intro sz
  refine K_of (Qc := (fun sz => QI X 1 r N sz)) (own := RX10) (lv0 := [(0, .ref (X.2.2 109)), (1, .int a1), (2, .int a2)]) (by decide +kernel) rfl (Nat.le_of_ble_eq_true rfl) rfl (fun p e s m args below meth c S => ?_) sz
  · unfold f_X10_clean at he
    refine z_aload_n S dX10_clean_0 rfl 0 rfl ?_
    refine z_aload_n S dX10_clean_1 rfl 0 rfl ?_
    refine z_iload_n S dX10_clean_2 rfl 1 rfl ?_
    obtain ⟨r1, h9, he⟩ := bnd he
    refine z_cVI (As := [.int a1]) S cv_RX10_300 (K_X10_isVisitor  h9) ok_109 (by decide) (q := (RX10, TX10, 28)) rfl rfl ⟨rfl, rfl⟩ ⟨Nat.le_of_ble_eq_true rfl, Nat.le_of_ble_eq_true rfl⟩ ⟨Nat.le_refl _, Nat.le_refl _⟩ rfl rfl (Nat.le_of_ble_eq_true rfl) dX10_clean_3 ?_
    refine z_ifb_ne (tgt := 13) S he dX10_clean_6 (by decide) (fun he => ?_) (fun he => ?_)
    · refine z_iload_n S dX10_clean_13 rfl 2 rfl ?_
      refine z_iconst (v := 0) S dX10_clean_14 (by decide) ?_
      refine z_bipush (v := 9) S dX10_clean_15 (by decide) ?_
      refine z_cSI (As := [.int a2, .int 0, .int 9]) S cs_RX10_66 (K_X10_isIn  rfl) ⟨rfl, rfl⟩ ⟨Nat.le_of_ble_eq_true rfl, Nat.le_of_ble_eq_true rfl⟩ ⟨Nat.le_refl _, Nat.le_refl _⟩ rfl rfl (Nat.le_of_ble_eq_true rfl) dX10_clean_17 ?_
      refine z_ifb_ne (tgt := 27) S he dX10_clean_20 (by decide) (fun he => ?_) (fun he => ?_)
      · refine z_iconst (v := 0) S dX10_clean_27 (by decide) ?_
        exact p_X10_clean_J28 S  he
      · refine z_iconst (v := 2) S dX10_clean_23 (by decide) ?_
        refine z_goto (tgt := 28) S dX10_clean_24 (by decide) ?_
        exact p_X10_clean_J28 S  he
    · refine z_iconst (v := 1) S dX10_clean_9 (by decide) ?_
      refine z_goto (tgt := 28) S dX10_clean_10 (by decide) ?_
      exact p_X10_clean_J28 S  he
set_option maxRecDepth 100000 in
set_option maxHeartbeats 4000000 in
theorem p_X10_comes_L34 {X : Cx} {p : Program} {l : Launch} {e : Env} {s : State} {m : MethodId} {args : Array Value} {below : List Frame} {meth : Method} {c : Code} (S : SB X 1 p s m args meth c cX10_comes 5 (some .int) RX10) {M : Mm} {N : Mm} {r : Int32} {v1 : Int32} {v2 : Int32} {v3 : Int32} {x : (Mm × Int32 × Int32) ⊕ (Mm × Int32)}  (he : f_X10_comes_L34 M v1 v2 v3 = some x) (hc : ∀ b, x = .inl b → Z X 1 p l e rm_X10_comes s m args below meth c 0 0 (MQ below (QI X 1 r N s.heap.size) args s 0 0 (AA X 1 s.heap.size)) 5 b.1 34 [(0, .ref (X.2.2 109)), (1, .int v1), (2, .int b.2.1), (3, .int b.2.2)] []) (hx : ∀ b, x = .inr b → Z X 1 p l e rm_X10_comes s m args below meth c 0 0 (MQ below (QI X 1 r N s.heap.size) args s 0 0 (AA X 1 s.heap.size)) 5 b.1 69 [(0, .ref (X.2.2 109)), (2, .int b.2)] []) : Z X 1 p l e rm_X10_comes s m args below meth c 0 0 (MQ below (QI X 1 r N s.heap.size) args s 0 0 (AA X 1 s.heap.size)) 5 M 34 [(0, .ref (X.2.2 109)), (1, .int v1), (2, .int v2), (3, .int v3)] [] := by
  unfold f_X10_comes_L34 at he
  refine z_iload_n S dX10_comes_34 rfl 3 rfl ?_
  refine z_bipush (v := 30) S dX10_comes_35 (by decide) ?_
  refine z_icmp_gt (tgt := 69) S he dX10_comes_37 (by decide) (fun he => ?_) (fun he => ?_)
  · refine z_lv (ks := [0, 2]) rfl ?_
    exact hx _ (Option.some.inj he).symm
  · refine z_iload_n S dX10_comes_40 rfl 2 rfl ?_
    refine z_iconst (v := (-1)) S dX10_comes_41 (by decide) ?_
    refine z_icmp_ne (tgt := 69) S he dX10_comes_42 (by decide) (fun he => ?_) (fun he => ?_)
    · refine z_lv (ks := [0, 2]) rfl ?_
      exact hx _ (Option.some.inj he).symm
    · refine z_aload_n S dX10_comes_45 rfl 0 rfl ?_
      refine z_iconst (v := 0) S dX10_comes_46 (by decide) ?_
      obtain ⟨⟨r4, M5⟩, h9, he⟩ := bnd he
      dsimp only at he
      refine z_cVI (As := [.int 0]) S cv_RX10_282 (K_X10_goesBy  h9) ok_109 (by decide) (q := (RX10, TX10, 28)) rfl rfl ⟨rfl, rfl⟩ ⟨Nat.le_of_ble_eq_true rfl, Nat.le_of_ble_eq_true rfl⟩ ⟨Nat.le_refl _, Nat.le_refl _⟩ rfl rfl (Nat.le_of_ble_eq_true rfl) dX10_comes_47 ?_
      refine z_istore (lv' := [(0, .ref (X.2.2 109)), (1, .int v1), (2, .int v2), (3, .int v3)]) S [1, 2, 3, 4] dX10_comes_50 (by decide) rfl ?_
      refine z_aload_n S dX10_comes_52 rfl 0 rfl ?_
      refine z_getF (j := 119) S fo_RX10_41 10 rfl rfl ok_109 dX10_comes_53 ?_
      refine z_iload_n S dX10_comes_56 rfl 1 rfl ?_
      refine z_iald S ok_119 rfl he dX10_comes_57 (fun he => ?_)
      refine z_if_le (tgt := 63) S he dX10_comes_58 (by decide) (fun he => ?_) (fun he => ?_)
      · refine z_iinc (v := (v3 + 1)) (lv' := [(0, .ref (X.2.2 109)), (1, .int v1), (2, .int v2), (3, .int (v3 + 1))]) S [1, 2, 3, 0] 3 dX10_comes_63 rfl (by rfl) (by decide) rfl ?_
        refine z_goto (tgt := 34) S dX10_comes_66 (by decide) ?_
        refine z_lv (ks := [0, 1, 2, 3]) rfl ?_
        exact hc _ (Option.some.inj he).symm
      · refine z_iload_n S dX10_comes_61 rfl 3 rfl ?_
        refine z_istore_n (lv' := [(0, .ref (X.2.2 109)), (1, .int v1), (2, .int v3), (3, .int v3)]) S [1, 2, 0, 3] dX10_comes_62 rfl (by decide) rfl ?_
        refine z_iinc (v := (v3 + 1)) (lv' := [(0, .ref (X.2.2 109)), (1, .int v1), (2, .int v3), (3, .int (v3 + 1))]) S [1, 2, 3, 0] 3 dX10_comes_63 rfl (by rfl) (by decide) rfl ?_
        refine z_goto (tgt := 34) S dX10_comes_66 (by decide) ?_
        refine z_lv (ks := [0, 1, 2, 3]) rfl ?_
        exact hc _ (Option.some.inj he).symm
set_option maxRecDepth 100000 in
set_option maxHeartbeats 4000000 in
theorem p_X10_comes_J14 {X : Cx} {p : Program} {l : Launch} {e : Env} {s : State} {m : MethodId} {args : Array Value} {below : List Frame} {meth : Method} {c : Code} (S : SB X 1 p s m args meth c cX10_comes 5 (some .int) RX10) {M : Mm} {N : Mm} {r : Int32} {v1 : Int32} {t0 : Int32}  (he : f_X10_comes_J14 M v1 t0 = some (r, N)) : Z X 1 p l e rm_X10_comes s m args below meth c 0 0 (MQ below (QI X 1 r N s.heap.size) args s 0 0 (AA X 1 s.heap.size)) 5 M 14 [(0, .ref (X.2.2 109)), (1, .int v1)] [.int t0, .ref (X.2.2 109)] := by
  unfold f_X10_comes_J14 at he
  refine z_putIb S fo_RX10_63p rfl ok_109 rfl rfl he dX10_comes_14 (fun M2 he => ?_)
  refine z_aload_n S dX10_comes_17 rfl 0 rfl ?_
  refine z_getI S fo_RX10_63 rfl ok_109 dX10_comes_18 ?_
  refine z_if_le (tgt := 26) S he dX10_comes_21 (by decide) (fun he => ?_) (fun he => ?_)
  · refine z_aload_n S dX10_comes_26 rfl 0 rfl ?_
    obtain ⟨M3, h9, he⟩ := bnd he
    refine z_cVV (As := []) S cv_RX10_171 (K_X10_putsAside  h9) ok_109 (by decide) (q := (RX10, TX10, 28)) rfl rfl ⟨rfl, rfl⟩ ⟨Nat.le_of_ble_eq_true rfl, Nat.le_of_ble_eq_true rfl⟩ ⟨Nat.le_refl _, Nat.le_refl _⟩ rfl rfl (Nat.le_of_ble_eq_true rfl) dX10_comes_27 ?_
    refine z_iconst (v := (-1)) S dX10_comes_30 (by decide) ?_
    refine z_istore_n (lv' := [(0, .ref (X.2.2 109)), (1, .int v1), (2, .int (-1))]) S [1, 2, 0] dX10_comes_31 rfl (by decide) rfl ?_
    refine z_iconst (v := 1) S dX10_comes_32 (by decide) ?_
    refine z_istore_n (lv' := [(0, .ref (X.2.2 109)), (1, .int v1), (2, .int (-1)), (3, .int 1)]) S [1, 2, 3, 0] dX10_comes_33 rfl (by decide) rfl ?_
    obtain ⟨e_6, hl, he⟩ := bnd he
    have hX : Z X 1 p l e rm_X10_comes s m args below meth c 0 0 (MQ below (QI X 1 r N s.heap.size) args s 0 0 (AA X 1 s.heap.size)) 5 e_6.1 69 [(0, .ref (X.2.2 109)), (2, .int e_6.2)] [] := by
      refine z_aload_n S dX10_comes_69 rfl 0 rfl ?_
      obtain ⟨M7, h9, he⟩ := bnd he
      refine z_cVV (As := []) S cv_RX10_181 (K_X10_comesBack  h9) ok_109 (by decide) (q := (RX10, TX10, 28)) rfl rfl ⟨rfl, rfl⟩ ⟨Nat.le_of_ble_eq_true rfl, Nat.le_of_ble_eq_true rfl⟩ ⟨Nat.le_refl _, Nat.le_refl _⟩ rfl rfl (Nat.le_of_ble_eq_true rfl) dX10_comes_70 ?_
      refine z_iload_n S dX10_comes_73 rfl 1 rfl ?_
      exact z_iret S (Prod.mk.inj (Option.some.inj he)) dX10_comes_74
    have hZ9 := loopZ (f := (fun a_6 => f_X10_comes_L34 a_6.1 v1 a_6.2.1 a_6.2.2)) (Zh := (fun a_6 => Z X 1 p l e rm_X10_comes s m args below meth c 0 0 (MQ below (QI X 1 r N s.heap.size) args s 0 0 (AA X 1 s.heap.size)) 5 a_6.1 34 [(0, .ref (X.2.2 109)), (1, .int v1), (2, .int a_6.2.1), (3, .int a_6.2.2)] [])) (fun a_6 x hb hc hr => p_X10_comes_L34 S  hb hc (fun b hxe => by rw [hr b hxe]; exact hX)) FU (M3, (-1), 1) hl
    exact hZ9
  · refine z_iconst (v := 0) S dX10_comes_24 (by decide) ?_
    exact z_iret S (Prod.mk.inj (Option.some.inj he)) dX10_comes_25
set_option maxRecDepth 100000 in
set_option maxHeartbeats 4000000 in
theorem K_X10_comes {X : Cx} {l : Launch} {M : Mm} {a1 : Int32} {r : Int32} {N : Mm}  (he : f_X10_comes M a1 = some (r, N)) : KI X 1 l yX10_comes (wz yX10_comes cX10_comes 5 (some .int)) rm_X10_comes [.ref (X.2.2 109), .int a1] M r N := by
  intro sz
  refine K_of (Qc := (fun sz => QI X 1 r N sz)) (own := RX10) (lv0 := [(0, .ref (X.2.2 109)), (1, .int a1)]) (by decide +kernel) rfl (Nat.le_of_ble_eq_true rfl) rfl (fun p e s m args below meth c S => ?_) sz
  · unfold f_X10_comes at he
    refine z_aload_n S dX10_comes_0 rfl 0 rfl ?_
    refine z_aload_n S dX10_comes_1 rfl 0 rfl ?_
    refine z_iload_n S dX10_comes_2 rfl 1 rfl ?_
    obtain ⟨r1, h9, he⟩ := bnd he
    refine z_cVI (As := [.int a1]) S cv_RX10_285 (K_X10_isThing  h9) ok_109 (by decide) (q := (RX10, TX10, 28)) rfl rfl ⟨rfl, rfl⟩ ⟨Nat.le_of_ble_eq_true rfl, Nat.le_of_ble_eq_true rfl⟩ ⟨Nat.le_refl _, Nat.le_refl _⟩ rfl rfl (Nat.le_of_ble_eq_true rfl) dX10_comes_3 ?_
    refine z_ifb_ne (tgt := 13) S he dX10_comes_6 (by decide) (fun he => ?_) (fun he => ?_)
    · refine z_iconst (v := 0) S dX10_comes_13 (by decide) ?_
      exact p_X10_comes_J14 S  he
    · refine z_iconst (v := 1) S dX10_comes_9 (by decide) ?_
      refine z_goto (tgt := 14) S dX10_comes_10 (by decide) ?_
      exact p_X10_comes_J14 S  he
set_option maxRecDepth 100000 in
set_option maxHeartbeats 4000000 in
theorem p_X10_shown_L4 {X : Cx} {p : Program} {l : Launch} {e : Env} {s : State} {m : MethodId} {args : Array Value} {below : List Frame} {meth : Method} {c : Code} (S : SB X 1 p s m args meth c cX10_shown 3 (some .int) RX10) {M : Mm} {r : Int32} {v1 : Int32} {v2 : Int32} {x : (Int32 × Int32) ⊕ Int32}  (he : f_X10_shown_L4 M v1 v2 = some x) (hc : ∀ b, x = .inl b → Z X 1 p l e rm_X10_shown s m args below meth c 0 0 (MQ below (QI X 1 r M s.heap.size) args s 0 0 (AA X 1 s.heap.size)) 3 M 4 [(0, .ref (X.2.2 109)), (1, .int b.1), (2, .int b.2)] []) (hx : ∀ b, x = .inr b → Z X 1 p l e rm_X10_shown s m args below meth c 0 0 (MQ below (QI X 1 r M s.heap.size) args s 0 0 (AA X 1 s.heap.size)) 3 M 31 [(1, .int b)] []) : Z X 1 p l e rm_X10_shown s m args below meth c 0 0 (MQ below (QI X 1 r M s.heap.size) args s 0 0 (AA X 1 s.heap.size)) 3 M 4 [(0, .ref (X.2.2 109)), (1, .int v1), (2, .int v2)] [] := by
  unfold f_X10_shown_L4 at he
  refine z_iload_n S dX10_shown_4 rfl 2 rfl ?_
  refine z_aload_n S dX10_shown_5 rfl 0 rfl ?_
  refine z_getF (j := 110) S fo_RX10_7 1 rfl rfl ok_109 dX10_shown_6 ?_
  refine z_iconst (v := 3) S dX10_shown_9 (by decide) ?_
  refine z_iald S ok_110 rfl he dX10_shown_10 (fun he => ?_)
  refine z_icmp_ge (tgt := 31) S he dX10_shown_11 (by decide) (fun he => ?_) (fun he => ?_)
  · refine z_lv (ks := [1]) rfl ?_
    exact hx _ (Option.some.inj he).symm
  · refine z_iload_n S dX10_shown_14 rfl 1 rfl ?_
    refine z_aload_n S dX10_shown_15 rfl 0 rfl ?_
    refine z_iload_n S dX10_shown_16 rfl 2 rfl ?_
    refine z_iconst (v := 3) S dX10_shown_17 (by decide) ?_
    obtain ⟨r1, h9, he⟩ := bnd he
    refine z_cVI (As := [.int v2, .int 3]) S cv_RX10_70 (K_X10_of  h9) ok_109 (by decide) (q := (RX10, TX10, 28)) rfl rfl ⟨rfl, rfl⟩ ⟨Nat.le_of_ble_eq_true rfl, Nat.le_of_ble_eq_true rfl⟩ ⟨Nat.le_refl _, Nat.le_refl _⟩ rfl rfl (Nat.le_of_ble_eq_true rfl) dX10_shown_18 ?_
    refine z_iload_n S dX10_shown_21 rfl 2 rfl ?_
    refine z_ishl S dX10_shown_22 ?_
    refine z_ior S dX10_shown_23 ?_
    obtain ⟨x2, ex2, he⟩ := bnd he
    rw [Option.some.inj ex2]
    refine z_istore_n (lv' := [(0, .ref (X.2.2 109)), (1, .int x2), (2, .int v2)]) S [1, 0, 2] dX10_shown_24 rfl (by decide) rfl ?_
    refine z_iinc (v := (v2 + 1)) (lv' := [(0, .ref (X.2.2 109)), (1, .int x2), (2, .int (v2 + 1))]) S [1, 2, 0] 2 dX10_shown_25 rfl (by rfl) (by decide) rfl ?_
    refine z_goto (tgt := 4) S dX10_shown_28 (by decide) ?_
    refine z_lv (ks := [0, 1, 2]) rfl ?_
    exact hc _ (Option.some.inj he).symm
set_option maxRecDepth 100000 in
set_option maxHeartbeats 4000000 in
theorem K_X10_shown {X : Cx} {l : Launch} {M : Mm} {r : Int32}  (he : f_X10_shown M  = some r) : KI X 1 l yX10_shown (wz yX10_shown cX10_shown 3 (some .int)) rm_X10_shown [.ref (X.2.2 109)] M r M := by
  intro sz
  refine K_of (Qc := (fun sz => QI X 1 r M sz)) (own := RX10) (lv0 := [(0, .ref (X.2.2 109))]) (by decide +kernel) rfl (Nat.le_of_ble_eq_true rfl) rfl (fun p e s m args below meth c S => ?_) sz
  · unfold f_X10_shown at he
    refine z_iconst (v := 0) S dX10_shown_0 (by decide) ?_
    refine z_istore_n (lv' := [(0, .ref (X.2.2 109)), (1, .int 0)]) S [1, 0] dX10_shown_1 rfl (by decide) rfl ?_
    refine z_iconst (v := 0) S dX10_shown_2 (by decide) ?_
    refine z_istore_n (lv' := [(0, .ref (X.2.2 109)), (1, .int 0), (2, .int 0)]) S [1, 2, 0] dX10_shown_3 rfl (by decide) rfl ?_
    obtain ⟨e_3, hl, he⟩ := bnd he
    have hX : Z X 1 p l e rm_X10_shown s m args below meth c 0 0 (MQ below (QI X 1 r M s.heap.size) args s 0 0 (AA X 1 s.heap.size)) 3 M 31 [(1, .int e_3)] [] := by
      refine z_iload_n S dX10_shown_31 rfl 0 rfl ?_
      exact z_iret S (⟨Option.some.inj he, rfl⟩) dX10_shown_32
    have hZ9 := loopZ (f := (fun a_3 => f_X10_shown_L4 M a_3.1 a_3.2)) (Zh := (fun a_3 => Z X 1 p l e rm_X10_shown s m args below meth c 0 0 (MQ below (QI X 1 r M s.heap.size) args s 0 0 (AA X 1 s.heap.size)) 3 M 4 [(0, .ref (X.2.2 109)), (1, .int a_3.1), (2, .int a_3.2)] [])) (fun a_3 x hb hc hr => p_X10_shown_L4 S  hb hc (fun b hxe => by rw [hr b hxe]; exact hX)) FU (0, 0) hl
    exact hZ9
set_option maxRecDepth 100000 in
set_option maxHeartbeats 4000000 in
theorem p_X10_together_L4 {X : Cx} {p : Program} {l : Launch} {e : Env} {s : State} {m : MethodId} {args : Array Value} {below : List Frame} {meth : Method} {c : Code} (S : SB X 1 p s m args meth c cX10_together 4 (some .int) RX10) {M : Mm} {r : Int32} {v1 : Int32} {v2 : Int32} {v3 : Int32} {x : (Int32 × Int32) ⊕ Int32}  (he : f_X10_together_L4 M v1 v2 v3 = some x) (hc : ∀ b, x = .inl b → Z X 1 p l e rm_X10_together s m args below meth c 0 0 (MQ below (QI X 1 r M s.heap.size) args s 0 0 (AA X 1 s.heap.size)) 4 M 4 [(0, .ref (X.2.2 109)), (1, .int v1), (2, .int b.1), (3, .int b.2)] []) (hx : ∀ b, x = .inr b → Z X 1 p l e rm_X10_together s m args below meth c 0 0 (MQ below (QI X 1 r M s.heap.size) args s 0 0 (AA X 1 s.heap.size)) 4 M 29 [(2, .int b)] []) : Z X 1 p l e rm_X10_together s m args below meth c 0 0 (MQ below (QI X 1 r M s.heap.size) args s 0 0 (AA X 1 s.heap.size)) 4 M 4 [(0, .ref (X.2.2 109)), (1, .int v1), (2, .int v2), (3, .int v3)] [] := by
  unfold f_X10_together_L4 at he
  refine z_iload_n S dX10_together_4 rfl 3 rfl ?_
  refine z_aload_n S dX10_together_5 rfl 0 rfl ?_
  refine z_getF (j := 110) S fo_RX10_7 1 rfl rfl ok_109 dX10_together_6 ?_
  refine z_iconst (v := 3) S dX10_together_9 (by decide) ?_
  refine z_iald S ok_110 rfl he dX10_together_10 (fun he => ?_)
  refine z_icmp_ge (tgt := 29) S he dX10_together_11 (by decide) (fun he => ?_) (fun he => ?_)
  · refine z_lv (ks := [2]) rfl ?_
    exact hx _ (Option.some.inj he).symm
  · refine z_iload_n S dX10_together_14 rfl 2 rfl ?_
    refine z_aload_n S dX10_together_15 rfl 0 rfl ?_
    refine z_iload_n S dX10_together_16 rfl 3 rfl ?_
    refine z_iload_n S dX10_together_17 rfl 1 rfl ?_
    obtain ⟨r1, h9, he⟩ := bnd he
    refine z_cVI (As := [.int v3, .int v1]) S cv_RX10_70 (K_X10_of  h9) ok_109 (by decide) (q := (RX10, TX10, 28)) rfl rfl ⟨rfl, rfl⟩ ⟨Nat.le_of_ble_eq_true rfl, Nat.le_of_ble_eq_true rfl⟩ ⟨Nat.le_refl _, Nat.le_refl _⟩ rfl rfl (Nat.le_of_ble_eq_true rfl) dX10_together_18 ?_
    refine z_iadd S dX10_together_21 ?_
    refine z_istore_n (lv' := [(0, .ref (X.2.2 109)), (1, .int v1), (2, .int (v2 + r1)), (3, .int v3)]) S [1, 2, 0, 3] dX10_together_22 rfl (by decide) rfl ?_
    refine z_iinc (v := (v3 + 1)) (lv' := [(0, .ref (X.2.2 109)), (1, .int v1), (2, .int (v2 + r1)), (3, .int (v3 + 1))]) S [1, 2, 3, 0] 3 dX10_together_23 rfl (by rfl) (by decide) rfl ?_
    refine z_goto (tgt := 4) S dX10_together_26 (by decide) ?_
    refine z_lv (ks := [0, 1, 2, 3]) rfl ?_
    exact hc _ (Option.some.inj he).symm
set_option maxRecDepth 100000 in
set_option maxHeartbeats 4000000 in
theorem K_X10_together {X : Cx} {l : Launch} {M : Mm} {a1 : Int32} {r : Int32}  (he : f_X10_together M a1 = some r) : KI X 1 l yX10_together (wz yX10_together cX10_together 4 (some .int)) rm_X10_together [.ref (X.2.2 109), .int a1] M r M := by
  intro sz
  refine K_of (Qc := (fun sz => QI X 1 r M sz)) (own := RX10) (lv0 := [(0, .ref (X.2.2 109)), (1, .int a1)]) (by decide +kernel) rfl (Nat.le_of_ble_eq_true rfl) rfl (fun p e s m args below meth c S => ?_) sz
  · unfold f_X10_together at he
    refine z_iconst (v := 0) S dX10_together_0 (by decide) ?_
    refine z_istore_n (lv' := [(0, .ref (X.2.2 109)), (1, .int a1), (2, .int 0)]) S [1, 2, 0] dX10_together_1 rfl (by decide) rfl ?_
    refine z_iconst (v := 0) S dX10_together_2 (by decide) ?_
    refine z_istore_n (lv' := [(0, .ref (X.2.2 109)), (1, .int a1), (2, .int 0), (3, .int 0)]) S [1, 2, 3, 0] dX10_together_3 rfl (by decide) rfl ?_
    obtain ⟨e_2, hl, he⟩ := bnd he
    have hX : Z X 1 p l e rm_X10_together s m args below meth c 0 0 (MQ below (QI X 1 r M s.heap.size) args s 0 0 (AA X 1 s.heap.size)) 4 M 29 [(2, .int e_2)] [] := by
      refine z_iload_n S dX10_together_29 rfl 0 rfl ?_
      exact z_iret S (⟨Option.some.inj he, rfl⟩) dX10_together_30
    have hZ9 := loopZ (f := (fun a_2 => f_X10_together_L4 M a1 a_2.1 a_2.2)) (Zh := (fun a_2 => Z X 1 p l e rm_X10_together s m args below meth c 0 0 (MQ below (QI X 1 r M s.heap.size) args s 0 0 (AA X 1 s.heap.size)) 4 M 4 [(0, .ref (X.2.2 109)), (1, .int a1), (2, .int a_2.1), (3, .int a_2.2)] [])) (fun a_2 x hb hc hr => p_X10_together_L4 S  hb hc (fun b hxe => by rw [hr b hxe]; exact hX)) FU (0, 0) hl
    exact hZ9
set_option maxRecDepth 100000 in
set_option maxHeartbeats 4000000 in
theorem K_X10_count {X : Cx} {l : Launch} {M : Mm} {a1 : Int32} {r : Int32} {N : Mm}  (he : f_X10_count M a1 = some (r, N)) : KI X 1 l yX10_count (wz yX10_count cX10_count 2 (some .int)) rm_X10_count [.ref (X.2.2 109), .int a1] M r N := by
  intro sz
  refine K_of (Qc := (fun sz => QI X 1 r N sz)) (own := RX10) (lv0 := [(0, .ref (X.2.2 109)), (1, .int a1)]) (by decide +kernel) rfl (Nat.le_of_ble_eq_true rfl) rfl (fun p e s m args below meth c S => ?_) sz
  · unfold f_X10_count at he
    refine z_aload_n S dX10_count_0 rfl 0 rfl ?_
    refine z_iconst (v := 0) S dX10_count_1 (by decide) ?_
    refine z_putIb S fo_RX10_63p rfl ok_109 rfl rfl he dX10_count_2 (fun M1 he => ?_)
    refine z_iload_n S dX10_count_5 rfl 1 rfl ?_
    refine z_if_ne (tgt := 16) S he dX10_count_6 (by decide) (fun he => ?_) (fun he => ?_)
    · refine z_iload_n S dX10_count_16 rfl 1 rfl ?_
      refine z_iconst (v := 1) S dX10_count_17 (by decide) ?_
      refine z_icmp_ne (tgt := 28) S he dX10_count_18 (by decide) (fun he => ?_) (fun he => ?_)
      · refine z_iload_n S dX10_count_28 rfl 1 rfl ?_
        refine z_iconst (v := 2) S dX10_count_29 (by decide) ?_
        refine z_icmp_ne (tgt := 40) S he dX10_count_30 (by decide) (fun he => ?_) (fun he => ?_)
        · refine z_iload_n S dX10_count_40 rfl 1 rfl ?_
          refine z_iconst (v := 3) S dX10_count_41 (by decide) ?_
          refine z_icmp_ne (tgt := 52) S he dX10_count_42 (by decide) (fun he => ?_) (fun he => ?_)
          · refine z_iload_n S dX10_count_52 rfl 1 rfl ?_
            refine z_iconst (v := 4) S dX10_count_53 (by decide) ?_
            refine z_icmp_ne (tgt := 65) S he dX10_count_54 (by decide) (fun he => ?_) (fun he => ?_)
            · refine z_iload_n S dX10_count_65 rfl 1 rfl ?_
              refine z_iconst (v := 5) S dX10_count_66 (by decide) ?_
              refine z_icmp_ne (tgt := 77) S he dX10_count_67 (by decide) (fun he => ?_) (fun he => ?_)
              · refine z_iload_n S dX10_count_77 rfl 1 rfl ?_
                refine z_bipush (v := 6) S dX10_count_78 (by decide) ?_
                refine z_icmp_ne (tgt := 88) S he dX10_count_80 (by decide) (fun he => ?_) (fun he => ?_)
                · refine z_iload_n S dX10_count_88 rfl 1 rfl ?_
                  refine z_bipush (v := 7) S dX10_count_89 (by decide) ?_
                  refine z_icmp_ne (tgt := 100) S he dX10_count_91 (by decide) (fun he => ?_) (fun he => ?_)
                  · refine z_iload_n S dX10_count_100 rfl 1 rfl ?_
                    refine z_bipush (v := 8) S dX10_count_101 (by decide) ?_
                    refine z_icmp_ne (tgt := 112) S he dX10_count_103 (by decide) (fun he => ?_) (fun he => ?_)
                    · refine z_iload_n S dX10_count_112 rfl 1 rfl ?_
                      refine z_bipush (v := 9) S dX10_count_113 (by decide) ?_
                      refine z_icmp_ne (tgt := 126) S he dX10_count_115 (by decide) (fun he => ?_) (fun he => ?_)
                      · refine z_iload_n S dX10_count_126 rfl 1 rfl ?_
                        refine z_bipush (v := 10) S dX10_count_127 (by decide) ?_
                        refine z_icmp_ne (tgt := 140) S he dX10_count_129 (by decide) (fun he => ?_) (fun he => ?_)
                        · refine z_iload_n S dX10_count_140 rfl 1 rfl ?_
                          refine z_bipush (v := 11) S dX10_count_141 (by decide) ?_
                          refine z_icmp_ne (tgt := 153) S he dX10_count_143 (by decide) (fun he => ?_) (fun he => ?_)
                          · refine z_iconst (v := (-1)) S dX10_count_153 (by decide) ?_
                            exact z_iret S (Prod.mk.inj (Option.some.inj he)) dX10_count_154
                          · refine z_aload_n S dX10_count_146 rfl 0 rfl ?_
                            refine z_getI S fo_RX10_184 rfl ok_109 dX10_count_147 ?_
                            refine z_goto (tgt := 154) S dX10_count_150 (by decide) ?_
                            exact z_iret S (Prod.mk.inj (Option.some.inj he)) dX10_count_154
                        · refine z_aload_n S dX10_count_132 rfl 0 rfl ?_
                          refine z_getF (j := 110) S fo_RX10_7 1 rfl rfl ok_109 dX10_count_133 ?_
                          refine z_bipush (v := 8) S dX10_count_136 (by decide) ?_
                          refine z_iald S ok_110 rfl he dX10_count_138 (fun he => ?_)
                          exact z_iret S (Prod.mk.inj (Option.some.inj he)) dX10_count_139
                      · refine z_aload_n S dX10_count_118 rfl 0 rfl ?_
                        refine z_getF (j := 110) S fo_RX10_7 1 rfl rfl ok_109 dX10_count_119 ?_
                        refine z_bipush (v := 7) S dX10_count_122 (by decide) ?_
                        refine z_iald S ok_110 rfl he dX10_count_124 (fun he => ?_)
                        exact z_iret S (Prod.mk.inj (Option.some.inj he)) dX10_count_125
                    · refine z_aload_n S dX10_count_106 rfl 0 rfl ?_
                      refine z_iconst (v := 2) S dX10_count_107 (by decide) ?_
                      obtain ⟨r2, h9, he⟩ := bnd he
                      refine z_cVI (As := [.int 2]) S cv_RX10_358 (K_X10_together  h9) ok_109 (by decide) (q := (RX10, TX10, 28)) rfl rfl ⟨rfl, rfl⟩ ⟨Nat.le_of_ble_eq_true rfl, Nat.le_of_ble_eq_true rfl⟩ ⟨Nat.le_refl _, Nat.le_refl _⟩ rfl rfl (Nat.le_of_ble_eq_true rfl) dX10_count_108 ?_
                      exact z_iret S (Prod.mk.inj (Option.some.inj he)) dX10_count_111
                  · refine z_aload_n S dX10_count_94 rfl 0 rfl ?_
                    refine z_iconst (v := 4) S dX10_count_95 (by decide) ?_
                    obtain ⟨r3, h9, he⟩ := bnd he
                    refine z_cVI (As := [.int 4]) S cv_RX10_358 (K_X10_together  h9) ok_109 (by decide) (q := (RX10, TX10, 28)) rfl rfl ⟨rfl, rfl⟩ ⟨Nat.le_of_ble_eq_true rfl, Nat.le_of_ble_eq_true rfl⟩ ⟨Nat.le_refl _, Nat.le_refl _⟩ rfl rfl (Nat.le_of_ble_eq_true rfl) dX10_count_96 ?_
                    exact z_iret S (Prod.mk.inj (Option.some.inj he)) dX10_count_99
                · refine z_aload_n S dX10_count_83 rfl 0 rfl ?_
                  obtain ⟨r4, h9, he⟩ := bnd he
                  refine z_cVI (As := []) S cv_RX10_355 (K_X10_shown  h9) ok_109 (by decide) (q := (RX10, TX10, 28)) rfl rfl ⟨rfl, rfl⟩ ⟨Nat.le_of_ble_eq_true rfl, Nat.le_of_ble_eq_true rfl⟩ ⟨Nat.le_refl _, Nat.le_refl _⟩ rfl rfl (Nat.le_of_ble_eq_true rfl) dX10_count_84 ?_
                  exact z_iret S (Prod.mk.inj (Option.some.inj he)) dX10_count_87
              · refine z_aload_n S dX10_count_70 rfl 0 rfl ?_
                refine z_getF (j := 110) S fo_RX10_7 1 rfl rfl ok_109 dX10_count_71 ?_
                refine z_iconst (v := 5) S dX10_count_74 (by decide) ?_
                refine z_iald S ok_110 rfl he dX10_count_75 (fun he => ?_)
                exact z_iret S (Prod.mk.inj (Option.some.inj he)) dX10_count_76
            · refine z_aload_n S dX10_count_57 rfl 0 rfl ?_
              refine z_getF (j := 110) S fo_RX10_7 1 rfl rfl ok_109 dX10_count_58 ?_
              refine z_bipush (v := 6) S dX10_count_61 (by decide) ?_
              refine z_iald S ok_110 rfl he dX10_count_63 (fun he => ?_)
              exact z_iret S (Prod.mk.inj (Option.some.inj he)) dX10_count_64
          · refine z_aload_n S dX10_count_45 rfl 0 rfl ?_
            refine z_getF (j := 110) S fo_RX10_7 1 rfl rfl ok_109 dX10_count_46 ?_
            refine z_iconst (v := 1) S dX10_count_49 (by decide) ?_
            refine z_iald S ok_110 rfl he dX10_count_50 (fun he => ?_)
            exact z_iret S (Prod.mk.inj (Option.some.inj he)) dX10_count_51
        · refine z_aload_n S dX10_count_33 rfl 0 rfl ?_
          refine z_getF (j := 110) S fo_RX10_7 1 rfl rfl ok_109 dX10_count_34 ?_
          refine z_iconst (v := 0) S dX10_count_37 (by decide) ?_
          refine z_iald S ok_110 rfl he dX10_count_38 (fun he => ?_)
          exact z_iret S (Prod.mk.inj (Option.some.inj he)) dX10_count_39
      · refine z_aload_n S dX10_count_21 rfl 0 rfl ?_
        refine z_getF (j := 110) S fo_RX10_7 1 rfl rfl ok_109 dX10_count_22 ?_
        refine z_iconst (v := 4) S dX10_count_25 (by decide) ?_
        refine z_iald S ok_110 rfl he dX10_count_26 (fun he => ?_)
        exact z_iret S (Prod.mk.inj (Option.some.inj he)) dX10_count_27
    · refine z_aload_n S dX10_count_9 rfl 0 rfl ?_
      refine z_getF (j := 110) S fo_RX10_7 1 rfl rfl ok_109 dX10_count_10 ?_
      refine z_iconst (v := 3) S dX10_count_13 (by decide) ?_
      refine z_iald S ok_110 rfl he dX10_count_14 (fun he => ?_)
      exact z_iret S (Prod.mk.inj (Option.some.inj he)) dX10_count_15
set_option maxRecDepth 100000 in
set_option maxHeartbeats 4000000 in
theorem p_X10_goes_L4 {X : Cx} {p : Program} {l : Launch} {e : Env} {s : State} {m : MethodId} {args : Array Value} {below : List Frame} {meth : Method} {c : Code} (S : SB X 1 p s m args meth c cX10_goes 4 (some .int) RX10) {M : Mm} {N : Mm} {r : Int32} {v1 : Int32} {v2 : Int32} {v3 : Int32} {x : (Mm × Int32 × Int32) ⊕ (Mm × Int32)}  (he : f_X10_goes_L4 M v1 v2 v3 = some x) (hc : ∀ b, x = .inl b → Z X 1 p l e rm_X10_goes s m args below meth c 0 0 (MQ below (QI X 1 r N s.heap.size) args s 0 0 (AA X 1 s.heap.size)) 4 b.1 4 [(0, .ref (X.2.2 109)), (1, .int v1), (2, .int b.2.1), (3, .int b.2.2)] []) (hx : ∀ b, x = .inr b → Z X 1 p l e rm_X10_goes s m args below meth c 0 0 (MQ below (QI X 1 r N s.heap.size) args s 0 0 (AA X 1 s.heap.size)) 4 b.1 23 [(2, .int b.2)] []) : Z X 1 p l e rm_X10_goes s m args below meth c 0 0 (MQ below (QI X 1 r N s.heap.size) args s 0 0 (AA X 1 s.heap.size)) 4 M 4 [(0, .ref (X.2.2 109)), (1, .int v1), (2, .int v2), (3, .int v3)] [] := by
  unfold f_X10_goes_L4 at he
  refine z_iload_n S dX10_goes_4 rfl 3 rfl ?_
  refine z_iload_n S dX10_goes_5 rfl 1 rfl ?_
  refine z_icmp_ge (tgt := 23) S he dX10_goes_6 (by decide) (fun he => ?_) (fun he => ?_)
  · refine z_lv (ks := [2]) rfl ?_
    exact hx _ (Option.some.inj he).symm
  · refine z_iload_n S dX10_goes_9 rfl 2 rfl ?_
    refine z_aload_n S dX10_goes_10 rfl 0 rfl ?_
    refine z_iconst (v := 1) S dX10_goes_11 (by decide) ?_
    obtain ⟨⟨r1, M2⟩, h9, he⟩ := bnd he
    dsimp only at he
    refine z_cVI (As := [.int 1]) S cv_RX10_282 (K_X10_goesBy  h9) ok_109 (by decide) (q := (RX10, TX10, 28)) rfl rfl ⟨rfl, rfl⟩ ⟨Nat.le_of_ble_eq_true rfl, Nat.le_of_ble_eq_true rfl⟩ ⟨Nat.le_refl _, Nat.le_refl _⟩ rfl rfl (Nat.le_of_ble_eq_true rfl) dX10_goes_12 ?_
    refine z_iadd S dX10_goes_15 ?_
    refine z_istore_n (lv' := [(0, .ref (X.2.2 109)), (1, .int v1), (2, .int (v2 + r1)), (3, .int v3)]) S [1, 2, 0, 3] dX10_goes_16 rfl (by decide) rfl ?_
    refine z_iinc (v := (v3 + 1)) (lv' := [(0, .ref (X.2.2 109)), (1, .int v1), (2, .int (v2 + r1)), (3, .int (v3 + 1))]) S [1, 2, 3, 0] 3 dX10_goes_17 rfl (by rfl) (by decide) rfl ?_
    refine z_goto (tgt := 4) S dX10_goes_20 (by decide) ?_
    refine z_lv (ks := [0, 1, 2, 3]) rfl ?_
    exact hc _ (Option.some.inj he).symm
set_option maxRecDepth 100000 in
set_option maxHeartbeats 4000000 in
theorem K_X10_goes {X : Cx} {l : Launch} {M : Mm} {a1 : Int32} {r : Int32} {N : Mm}  (he : f_X10_goes M a1 = some (r, N)) : KI X 1 l yX10_goes (wz yX10_goes cX10_goes 4 (some .int)) rm_X10_goes [.ref (X.2.2 109), .int a1] M r N := by
  intro sz
  refine K_of (Qc := (fun sz => QI X 1 r N sz)) (own := RX10) (lv0 := [(0, .ref (X.2.2 109)), (1, .int a1)]) (by decide +kernel) rfl (Nat.le_of_ble_eq_true rfl) rfl (fun p e s m args below meth c S => ?_) sz
  · unfold f_X10_goes at he
    refine z_iconst (v := 0) S dX10_goes_0 (by decide) ?_
    refine z_istore_n (lv' := [(0, .ref (X.2.2 109)), (1, .int a1), (2, .int 0)]) S [1, 2, 0] dX10_goes_1 rfl (by decide) rfl ?_
    refine z_iconst (v := 0) S dX10_goes_2 (by decide) ?_
    refine z_istore_n (lv' := [(0, .ref (X.2.2 109)), (1, .int a1), (2, .int 0), (3, .int 0)]) S [1, 2, 3, 0] dX10_goes_3 rfl (by decide) rfl ?_
    obtain ⟨e_3, hl, he⟩ := bnd he
    have hX : Z X 1 p l e rm_X10_goes s m args below meth c 0 0 (MQ below (QI X 1 r N s.heap.size) args s 0 0 (AA X 1 s.heap.size)) 4 e_3.1 23 [(2, .int e_3.2)] [] := by
      refine z_iload_n S dX10_goes_23 rfl 0 rfl ?_
      exact z_iret S (Prod.mk.inj (Option.some.inj he)) dX10_goes_24
    have hZ9 := loopZ (f := (fun a_3 => f_X10_goes_L4 a_3.1 a1 a_3.2.1 a_3.2.2)) (Zh := (fun a_3 => Z X 1 p l e rm_X10_goes s m args below meth c 0 0 (MQ below (QI X 1 r N s.heap.size) args s 0 0 (AA X 1 s.heap.size)) 4 a_3.1 4 [(0, .ref (X.2.2 109)), (1, .int a1), (2, .int a_3.2.1), (3, .int a_3.2.2)] [])) (fun a_3 x hb hc hr => p_X10_goes_L4 S  hb hc (fun b hxe => by rw [hr b hxe]; exact hX)) FU (M, 0, 0) hl
    exact hZ9
set_option maxRecDepth 100000 in
set_option maxHeartbeats 4000000 in
theorem p_X10_days_J16 {X : Cx} {p : Program} {l : Launch} {e : Env} {s : State} {m : MethodId} {args : Array Value} {below : List Frame} {meth : Method} {c : Code} (S : SB X 1 p s m args meth c cX10_days 2 (some .int) RX10) {M : Mm} {N : Mm} {r : Int32} {v1 : Int32} {t0 : Int32}  (he : f_X10_days_J16 M v1 t0 = some (r, N)) : Z X 1 p l e rm_X10_days s m args below meth c 0 0 (MQ below (QI X 1 r N s.heap.size) args s 0 0 (AA X 1 s.heap.size)) 2 M 16 [(0, .ref (X.2.2 109)), (1, .int v1)] [.int t0, .ref (X.2.2 109)] := by
  unfold f_X10_days_J16 at he
  refine z_putIb S fo_RX10_63p rfl ok_109 rfl rfl he dX10_days_16 (fun M1 he => ?_)
  refine z_aload_n S dX10_days_19 rfl 0 rfl ?_
  refine z_getI S fo_RX10_63 rfl ok_109 dX10_days_20 ?_
  refine z_if_le (tgt := 28) S he dX10_days_23 (by decide) (fun he => ?_) (fun he => ?_)
  · refine z_aload_n S dX10_days_28 rfl 0 rfl ?_
    obtain ⟨M2, h9, he⟩ := bnd he
    refine z_cVV (As := []) S cv_RX10_306 (K_X10_remembers  h9) ok_109 (by decide) (q := (RX10, TX10, 28)) rfl rfl ⟨rfl, rfl⟩ ⟨Nat.le_of_ble_eq_true rfl, Nat.le_of_ble_eq_true rfl⟩ ⟨Nat.le_refl _, Nat.le_refl _⟩ rfl rfl (Nat.le_of_ble_eq_true rfl) dX10_days_29 ?_
    refine z_aload_n S dX10_days_32 rfl 0 rfl ?_
    refine z_iload_n S dX10_days_33 rfl 1 rfl ?_
    obtain ⟨⟨r3, M4⟩, h9, he⟩ := bnd he
    dsimp only at he
    refine z_cVI (As := [.int v1]) S cv_RX10_309 (K_X10_goes  h9) ok_109 (by decide) (q := (RX10, TX10, 28)) rfl rfl ⟨rfl, rfl⟩ ⟨Nat.le_of_ble_eq_true rfl, Nat.le_of_ble_eq_true rfl⟩ ⟨Nat.le_refl _, Nat.le_refl _⟩ rfl rfl (Nat.le_of_ble_eq_true rfl) dX10_days_34 ?_
    exact z_iret S (Prod.mk.inj (Option.some.inj he)) dX10_days_37
  · refine z_iconst (v := 0) S dX10_days_26 (by decide) ?_
    exact z_iret S (Prod.mk.inj (Option.some.inj he)) dX10_days_27
set_option maxRecDepth 100000 in
set_option maxHeartbeats 4000000 in
theorem K_X10_days {X : Cx} {l : Launch} {M : Mm} {a1 : Int32} {r : Int32} {N : Mm}  (he : f_X10_days M a1 = some (r, N)) : KI X 1 l yX10_days (wz yX10_days cX10_days 2 (some .int)) rm_X10_days [.ref (X.2.2 109), .int a1] M r N := by
  intro sz
  refine K_of (Qc := (fun sz => QI X 1 r N sz)) (own := RX10) (lv0 := [(0, .ref (X.2.2 109)), (1, .int a1)]) (by decide +kernel) rfl (Nat.le_of_ble_eq_true rfl) rfl (fun p e s m args below meth c S => ?_) sz
  · unfold f_X10_days at he
    refine z_aload_n S dX10_days_0 rfl 0 rfl ?_
    refine z_iload_n S dX10_days_1 rfl 1 rfl ?_
    refine z_iconst (v := 1) S dX10_days_2 (by decide) ?_
    refine z_bipush (v := 50) S dX10_days_3 (by decide) ?_
    refine z_cSI (As := [.int a1, .int 1, .int 50]) S cs_RX10_66 (K_X10_isIn  rfl) ⟨rfl, rfl⟩ ⟨Nat.le_of_ble_eq_true rfl, Nat.le_of_ble_eq_true rfl⟩ ⟨Nat.le_refl _, Nat.le_refl _⟩ rfl rfl (Nat.le_of_ble_eq_true rfl) dX10_days_5 ?_
    refine z_ifb_ne (tgt := 15) S he dX10_days_8 (by decide) (fun he => ?_) (fun he => ?_)
    · refine z_iconst (v := 0) S dX10_days_15 (by decide) ?_
      exact p_X10_days_J16 S  he
    · refine z_iconst (v := 1) S dX10_days_11 (by decide) ?_
      refine z_goto (tgt := 16) S dX10_days_12 (by decide) ?_
      exact p_X10_days_J16 S  he
set_option maxRecDepth 100000 in
set_option maxHeartbeats 4000000 in
theorem p_X10_stepsOn_J2_54 {X : Cx} {p : Program} {l : Launch} {e : Env} {s : State} {m : MethodId} {args : Array Value} {below : List Frame} {meth : Method} {c : Code} (S : SB X 1 p s m args meth c cX10_stepsOn 7 (some .int) RX10) {M : Mm} {N : Mm} {r : Int32} {v1 : Int32} {v2 : Int32} {t0 : Int32} {t1 : Int32} {x : (Mm × Int32) ⊕ Mm}  (he : f_X10_stepsOn_J2_54 M v1 v2 t0 t1 = some x) (hc : ∀ b, x = .inl b → Z X 1 p l e rm_X10_stepsOn s m args below meth c 0 0 (MQ below (QI X 1 r N s.heap.size) args s 0 0 (AA X 1 s.heap.size)) 7 b.1 2 [(0, .ref (X.2.2 109)), (1, .int v1), (2, .int b.2)] []) (hx : ∀ b, x = .inr b → Z X 1 p l e rm_X10_stepsOn s m args below meth c 0 0 (MQ below (QI X 1 r N s.heap.size) args s 0 0 (AA X 1 s.heap.size)) 7 b 68 [(0, .ref (X.2.2 109)), (1, .int v1)] []) : Z X 1 p l e rm_X10_stepsOn s m args below meth c 0 0 (MQ below (QI X 1 r N s.heap.size) args s 0 0 (AA X 1 s.heap.size)) 7 M 54 [(0, .ref (X.2.2 109)), (1, .int v1), (2, .int v2)] [.int t0, .int t1, .ref (X.2.2 123)] := by
  unfold f_X10_stepsOn_J2_54 at he
  refine z_iastb S ok_123 rfl he dX10_stepsOn_54 (fun M1 he => ?_)
  refine z_aload_n S dX10_stepsOn_55 rfl 0 rfl ?_
  refine z_getF (j := 124) S fo_RX10_56 15 rfl rfl ok_109 dX10_stepsOn_56 ?_
  refine z_iload_n S dX10_stepsOn_59 rfl 2 rfl ?_
  refine z_iconst (v := (-1)) S dX10_stepsOn_60 (by decide) ?_
  refine z_iastb S ok_124 rfl he dX10_stepsOn_61 (fun M2 he => ?_)
  refine z_iinc (v := (v2 + 1)) (lv' := [(0, .ref (X.2.2 109)), (1, .int v1), (2, .int (v2 + 1))]) S [1, 2, 0] 2 dX10_stepsOn_62 rfl (by rfl) (by decide) rfl ?_
  refine z_goto (tgt := 2) S dX10_stepsOn_65 (by decide) ?_
  refine z_lv (ks := [0, 1, 2]) rfl ?_
  exact hc _ (Option.some.inj he).symm
set_option maxRecDepth 100000 in
set_option maxHeartbeats 4000000 in
theorem p_X10_stepsOn_J2_51 {X : Cx} {p : Program} {l : Launch} {e : Env} {s : State} {m : MethodId} {args : Array Value} {below : List Frame} {meth : Method} {c : Code} (S : SB X 1 p s m args meth c cX10_stepsOn 7 (some .int) RX10) {M : Mm} {N : Mm} {r : Int32} {v1 : Int32} {v2 : Int32} {t0 : Int32} {x : (Mm × Int32) ⊕ Mm}  (he : f_X10_stepsOn_J2_51 M v1 v2 t0 = some x) (hc : ∀ b, x = .inl b → Z X 1 p l e rm_X10_stepsOn s m args below meth c 0 0 (MQ below (QI X 1 r N s.heap.size) args s 0 0 (AA X 1 s.heap.size)) 7 b.1 2 [(0, .ref (X.2.2 109)), (1, .int v1), (2, .int b.2)] []) (hx : ∀ b, x = .inr b → Z X 1 p l e rm_X10_stepsOn s m args below meth c 0 0 (MQ below (QI X 1 r N s.heap.size) args s 0 0 (AA X 1 s.heap.size)) 7 b 68 [(0, .ref (X.2.2 109)), (1, .int v1)] []) : Z X 1 p l e rm_X10_stepsOn s m args below meth c 0 0 (MQ below (QI X 1 r N s.heap.size) args s 0 0 (AA X 1 s.heap.size)) 7 M 51 [(0, .ref (X.2.2 109)), (1, .int v1), (2, .int v2)] [.int t0, .ref (X.2.2 123)] := by
  unfold f_X10_stepsOn_J2_51 at he
  refine z_ldcw (v := (-2000000000)) S kc_RX10_330 dX10_stepsOn_51 ?_
  exact p_X10_stepsOn_J2_54 S  he hc hx
set_option maxRecDepth 100000 in
set_option maxHeartbeats 4000000 in
theorem p_X10_stepsOn_L2 {X : Cx} {p : Program} {l : Launch} {e : Env} {s : State} {m : MethodId} {args : Array Value} {below : List Frame} {meth : Method} {c : Code} (S : SB X 1 p s m args meth c cX10_stepsOn 7 (some .int) RX10) {M : Mm} {N : Mm} {r : Int32} {v1 : Int32} {v2 : Int32} {x : (Mm × Int32) ⊕ Mm}  (he : f_X10_stepsOn_L2 M v1 v2 = some x) (hc : ∀ b, x = .inl b → Z X 1 p l e rm_X10_stepsOn s m args below meth c 0 0 (MQ below (QI X 1 r N s.heap.size) args s 0 0 (AA X 1 s.heap.size)) 7 b.1 2 [(0, .ref (X.2.2 109)), (1, .int v1), (2, .int b.2)] []) (hx : ∀ b, x = .inr b → Z X 1 p l e rm_X10_stepsOn s m args below meth c 0 0 (MQ below (QI X 1 r N s.heap.size) args s 0 0 (AA X 1 s.heap.size)) 7 b 68 [(0, .ref (X.2.2 109)), (1, .int v1)] []) : Z X 1 p l e rm_X10_stepsOn s m args below meth c 0 0 (MQ below (QI X 1 r N s.heap.size) args s 0 0 (AA X 1 s.heap.size)) 7 M 2 [(0, .ref (X.2.2 109)), (1, .int v1), (2, .int v2)] [] := by
  unfold f_X10_stepsOn_L2 at he
  refine z_iload_n S dX10_stepsOn_2 rfl 2 rfl ?_
  refine z_bipush (v := 19) S dX10_stepsOn_3 (by decide) ?_
  refine z_icmp_ge (tgt := 68) S he dX10_stepsOn_5 (by decide) (fun he => ?_) (fun he => ?_)
  · refine z_lv (ks := [0, 1]) rfl ?_
    exact hx _ (Option.some.inj he).symm
  · refine z_aload_n S dX10_stepsOn_8 rfl 0 rfl ?_
    refine z_getF (j := 123) S fo_RX10_53 14 rfl rfl ok_109 dX10_stepsOn_9 ?_
    refine z_iload_n S dX10_stepsOn_12 rfl 2 rfl ?_
    refine z_iload_n S dX10_stepsOn_13 rfl 2 rfl ?_
    refine z_bipush (v := 9) S dX10_stepsOn_14 (by decide) ?_
    refine z_iload_n S dX10_stepsOn_16 rfl 1 rfl ?_
    refine z_iadd S dX10_stepsOn_17 ?_
    refine z_icmp_lt (tgt := 51) S he dX10_stepsOn_18 (by decide) (fun he => ?_) (fun he => ?_)
    · exact p_X10_stepsOn_J2_51 S  he hc hx
    · refine z_iload_n S dX10_stepsOn_21 rfl 2 rfl ?_
      refine z_bipush (v := 9) S dX10_stepsOn_22 (by decide) ?_
      refine z_aload_n S dX10_stepsOn_24 rfl 0 rfl ?_
      refine z_getF (j := 110) S fo_RX10_7 1 rfl rfl ok_109 dX10_stepsOn_25 ?_
      refine z_iconst (v := 4) S dX10_stepsOn_28 (by decide) ?_
      refine z_iald S ok_110 rfl he dX10_stepsOn_29 (fun he => ?_)
      refine z_iadd S dX10_stepsOn_30 ?_
      refine z_icmp_ge (tgt := 51) S he dX10_stepsOn_31 (by decide) (fun he => ?_) (fun he => ?_)
      · exact p_X10_stepsOn_J2_51 S  he hc hx
      · refine z_aload_n S dX10_stepsOn_34 rfl 0 rfl ?_
        refine z_getF (j := 120) S fo_RX10_44 11 rfl rfl ok_109 dX10_stepsOn_35 ?_
        refine z_iload_n S dX10_stepsOn_38 rfl 2 rfl ?_
        refine z_bipush (v := 9) S dX10_stepsOn_39 (by decide) ?_
        refine z_isub S dX10_stepsOn_41 ?_
        refine z_iald S ok_120 rfl he dX10_stepsOn_42 (fun he => ?_)
        refine z_iconst (v := (-1)) S dX10_stepsOn_43 (by decide) ?_
        refine z_icmp_ne (tgt := 51) S he dX10_stepsOn_44 (by decide) (fun he => ?_) (fun he => ?_)
        · exact p_X10_stepsOn_J2_51 S  he hc hx
        · refine z_iconst (v := 0) S dX10_stepsOn_47 (by decide) ?_
          refine z_goto (tgt := 54) S dX10_stepsOn_48 (by decide) ?_
          exact p_X10_stepsOn_J2_54 S  he hc hx
set_option maxRecDepth 100000 in
set_option maxHeartbeats 4000000 in
theorem p_X10_stepsOn_J91_208 {X : Cx} {p : Program} {l : Launch} {e : Env} {s : State} {m : MethodId} {args : Array Value} {below : List Frame} {meth : Method} {c : Code} (S : SB X 1 p s m args meth c cX10_stepsOn 7 (some .int) RX10) {M : Mm} {N : Mm} {r : Int32} {v1 : Int32} {v2 : Int32} {v3 : Int32} {v4 : Int32} {v5 : Int32} {x : (Mm × Int32) ⊕ Mm}  (he : f_X10_stepsOn_J91_208 M v1 v2 v3 v4 v5 = some x) (hc : ∀ b, x = .inl b → Z X 1 p l e rm_X10_stepsOn s m args below meth c 0 0 (MQ below (QI X 1 r N s.heap.size) args s 0 0 (AA X 1 s.heap.size)) 7 b.1 91 [(0, .ref (X.2.2 109)), (1, .int v1), (2, .int v2), (3, .int v3), (4, .int b.2)] []) (hx : ∀ b, x = .inr b → Z X 1 p l e rm_X10_stepsOn s m args below meth c 0 0 (MQ below (QI X 1 r N s.heap.size) args s 0 0 (AA X 1 s.heap.size)) 7 b 290 [(0, .ref (X.2.2 109)), (1, .int v1), (2, .int v2), (3, .int v3)] []) : Z X 1 p l e rm_X10_stepsOn s m args below meth c 0 0 (MQ below (QI X 1 r N s.heap.size) args s 0 0 (AA X 1 s.heap.size)) 7 M 208 [(0, .ref (X.2.2 109)), (1, .int v1), (2, .int v2), (3, .int v3), (4, .int v4), (5, .int v5)] [] := by
  unfold f_X10_stepsOn_J91_208 at he
  refine z_aload_n S dX10_stepsOn_208 rfl 0 rfl ?_
  refine z_getF (j := 120) S fo_RX10_44 11 rfl rfl ok_109 dX10_stepsOn_209 ?_
  refine z_iload_n S dX10_stepsOn_212 rfl 3 rfl ?_
  refine z_iald S ok_120 rfl he dX10_stepsOn_213 (fun he => ?_)
  refine z_iload S dX10_stepsOn_214 4 rfl ?_
  refine z_icmp_ne (tgt := 284) S he dX10_stepsOn_216 (by decide) (fun he => ?_) (fun he => ?_)
  · refine z_iinc (v := (v4 + 1)) (lv' := [(0, .ref (X.2.2 109)), (1, .int v1), (2, .int v2), (3, .int v3), (4, .int (v4 + 1)), (5, .int v5)]) S [1, 2, 3, 4, 0, 5] 4 dX10_stepsOn_284 rfl (by rfl) (by decide) rfl ?_
    refine z_goto (tgt := 91) S dX10_stepsOn_287 (by decide) ?_
    refine z_lv (ks := [0, 1, 2, 3, 4]) rfl ?_
    exact hc _ (Option.some.inj he).symm
  · refine z_aload_n S dX10_stepsOn_219 rfl 0 rfl ?_
    refine z_getF (j := 123) S fo_RX10_53 14 rfl rfl ok_109 dX10_stepsOn_220 ?_
    refine z_iload S dX10_stepsOn_223 4 rfl ?_
    refine z_iald S ok_123 rfl he dX10_stepsOn_225 (fun he => ?_)
    refine z_ldcw (v := (-2000000000)) S kc_RX10_330 dX10_stepsOn_226 ?_
    refine z_icmp_le (tgt := 284) S he dX10_stepsOn_229 (by decide) (fun he => ?_) (fun he => ?_)
    · refine z_iinc (v := (v4 + 1)) (lv' := [(0, .ref (X.2.2 109)), (1, .int v1), (2, .int v2), (3, .int v3), (4, .int (v4 + 1)), (5, .int v5)]) S [1, 2, 3, 4, 0, 5] 4 dX10_stepsOn_284 rfl (by rfl) (by decide) rfl ?_
      refine z_goto (tgt := 91) S dX10_stepsOn_287 (by decide) ?_
      refine z_lv (ks := [0, 1, 2, 3, 4]) rfl ?_
      exact hc _ (Option.some.inj he).symm
    · refine z_aload_n S dX10_stepsOn_232 rfl 0 rfl ?_
      refine z_getF (j := 123) S fo_RX10_53 14 rfl rfl ok_109 dX10_stepsOn_233 ?_
      refine z_iload S dX10_stepsOn_236 4 rfl ?_
      refine z_iald S ok_123 rfl he dX10_stepsOn_238 (fun he => ?_)
      refine z_iload S dX10_stepsOn_239 5 rfl ?_
      refine z_isub S dX10_stepsOn_241 ?_
      refine z_aload_n S dX10_stepsOn_242 rfl 0 rfl ?_
      refine z_getF (j := 123) S fo_RX10_53 14 rfl rfl ok_109 dX10_stepsOn_243 ?_
      refine z_bipush (v := 9) S dX10_stepsOn_246 (by decide) ?_
      refine z_iload_n S dX10_stepsOn_248 rfl 3 rfl ?_
      refine z_iadd S dX10_stepsOn_249 ?_
      refine z_iald S ok_123 rfl he dX10_stepsOn_250 (fun he => ?_)
      refine z_icmp_le (tgt := 284) S he dX10_stepsOn_251 (by decide) (fun he => ?_) (fun he => ?_)
      · refine z_iinc (v := (v4 + 1)) (lv' := [(0, .ref (X.2.2 109)), (1, .int v1), (2, .int v2), (3, .int v3), (4, .int (v4 + 1)), (5, .int v5)]) S [1, 2, 3, 4, 0, 5] 4 dX10_stepsOn_284 rfl (by rfl) (by decide) rfl ?_
        refine z_goto (tgt := 91) S dX10_stepsOn_287 (by decide) ?_
        refine z_lv (ks := [0, 1, 2, 3, 4]) rfl ?_
        exact hc _ (Option.some.inj he).symm
      · refine z_aload_n S dX10_stepsOn_254 rfl 0 rfl ?_
        refine z_getF (j := 123) S fo_RX10_53 14 rfl rfl ok_109 dX10_stepsOn_255 ?_
        refine z_bipush (v := 9) S dX10_stepsOn_258 (by decide) ?_
        refine z_iload_n S dX10_stepsOn_260 rfl 3 rfl ?_
        refine z_iadd S dX10_stepsOn_261 ?_
        refine z_aload_n S dX10_stepsOn_262 rfl 0 rfl ?_
        refine z_getF (j := 123) S fo_RX10_53 14 rfl rfl ok_109 dX10_stepsOn_263 ?_
        refine z_iload S dX10_stepsOn_266 4 rfl ?_
        refine z_iald S ok_123 rfl he dX10_stepsOn_268 (fun he => ?_)
        refine z_iload S dX10_stepsOn_269 5 rfl ?_
        refine z_isub S dX10_stepsOn_271 ?_
        refine z_iastb S ok_123 rfl he dX10_stepsOn_272 (fun M5 he => ?_)
        refine z_aload_n S dX10_stepsOn_273 rfl 0 rfl ?_
        refine z_getF (j := 124) S fo_RX10_56 15 rfl rfl ok_109 dX10_stepsOn_274 ?_
        refine z_bipush (v := 9) S dX10_stepsOn_277 (by decide) ?_
        refine z_iload_n S dX10_stepsOn_279 rfl 3 rfl ?_
        refine z_iadd S dX10_stepsOn_280 ?_
        refine z_iload S dX10_stepsOn_281 4 rfl ?_
        refine z_iastb S ok_124 rfl he dX10_stepsOn_283 (fun M6 he => ?_)
        refine z_iinc (v := (v4 + 1)) (lv' := [(0, .ref (X.2.2 109)), (1, .int v1), (2, .int v2), (3, .int v3), (4, .int (v4 + 1)), (5, .int v5)]) S [1, 2, 3, 4, 0, 5] 4 dX10_stepsOn_284 rfl (by rfl) (by decide) rfl ?_
        refine z_goto (tgt := 91) S dX10_stepsOn_287 (by decide) ?_
        refine z_lv (ks := [0, 1, 2, 3, 4]) rfl ?_
        exact hc _ (Option.some.inj he).symm
set_option maxRecDepth 100000 in
set_option maxHeartbeats 4000000 in
theorem p_X10_stepsOn_L91 {X : Cx} {p : Program} {l : Launch} {e : Env} {s : State} {m : MethodId} {args : Array Value} {below : List Frame} {meth : Method} {c : Code} (S : SB X 1 p s m args meth c cX10_stepsOn 7 (some .int) RX10) {M : Mm} {N : Mm} {r : Int32} {v1 : Int32} {v2 : Int32} {v3 : Int32} {v4 : Int32} {x : (Mm × Int32) ⊕ Mm}  (he : f_X10_stepsOn_L91 M v1 v2 v3 v4 = some x) (hc : ∀ b, x = .inl b → Z X 1 p l e rm_X10_stepsOn s m args below meth c 0 0 (MQ below (QI X 1 r N s.heap.size) args s 0 0 (AA X 1 s.heap.size)) 7 b.1 91 [(0, .ref (X.2.2 109)), (1, .int v1), (2, .int v2), (3, .int v3), (4, .int b.2)] []) (hx : ∀ b, x = .inr b → Z X 1 p l e rm_X10_stepsOn s m args below meth c 0 0 (MQ below (QI X 1 r N s.heap.size) args s 0 0 (AA X 1 s.heap.size)) 7 b 290 [(0, .ref (X.2.2 109)), (1, .int v1), (2, .int v2), (3, .int v3)] []) : Z X 1 p l e rm_X10_stepsOn s m args below meth c 0 0 (MQ below (QI X 1 r N s.heap.size) args s 0 0 (AA X 1 s.heap.size)) 7 M 91 [(0, .ref (X.2.2 109)), (1, .int v1), (2, .int v2), (3, .int v3), (4, .int v4)] [] := by
  unfold f_X10_stepsOn_L91 at he
  refine z_iload S dX10_stepsOn_91 4 rfl ?_
  refine z_aload_n S dX10_stepsOn_93 rfl 0 rfl ?_
  refine z_getF (j := 110) S fo_RX10_7 1 rfl rfl ok_109 dX10_stepsOn_94 ?_
  refine z_iconst (v := 3) S dX10_stepsOn_97 (by decide) ?_
  refine z_iald S ok_110 rfl he dX10_stepsOn_98 (fun he => ?_)
  refine z_icmp_ge (tgt := 290) S he dX10_stepsOn_99 (by decide) (fun he => ?_) (fun he => ?_)
  · refine z_lv (ks := [0, 1, 2, 3]) rfl ?_
    exact hx _ (Option.some.inj he).symm
  · refine z_aload_n S dX10_stepsOn_102 rfl 0 rfl ?_
    refine z_getF (j := 121) S fo_RX10_47 12 rfl rfl ok_109 dX10_stepsOn_103 ?_
    refine z_iload_n S dX10_stepsOn_106 rfl 3 rfl ?_
    refine z_iald S ok_121 rfl he dX10_stepsOn_107 (fun he => ?_)
    refine z_iload S dX10_stepsOn_108 4 rfl ?_
    refine z_cSI (As := [.int (gA M 121 v3), .int v4]) S cs_RX10_117 (K_X10_isOf  rfl) ⟨rfl, rfl⟩ ⟨Nat.le_of_ble_eq_true rfl, Nat.le_of_ble_eq_true rfl⟩ ⟨Nat.le_refl _, Nat.le_refl _⟩ rfl rfl (Nat.le_of_ble_eq_true rfl) dX10_stepsOn_110 ?_
    refine z_ifb_ne (tgt := 119) S he dX10_stepsOn_113 (by decide) (fun he => ?_) (fun he => ?_)
    · refine z_aload_n S dX10_stepsOn_119 rfl 0 rfl ?_
      refine z_getF (j := 116) S fo_RX10_32 7 rfl rfl ok_109 dX10_stepsOn_120 ?_
      refine z_bipush (v := 10) S dX10_stepsOn_123 (by decide) ?_
      refine z_iload S dX10_stepsOn_125 4 rfl ?_
      refine z_imul S dX10_stepsOn_127 ?_
      refine z_iload_n S dX10_stepsOn_128 rfl 3 rfl ?_
      refine z_iadd S dX10_stepsOn_129 ?_
      refine z_iald S ok_116 rfl he dX10_stepsOn_130 (fun he => ?_)
      obtain ⟨x4, ex4, he⟩ := bnd he
      rw [Option.some.inj ex4]
      refine z_istore (lv' := [(0, .ref (X.2.2 109)), (1, .int v1), (2, .int v2), (3, .int v3), (4, .int v4), (5, .int x4)]) S [1, 2, 3, 4, 5, 0] dX10_stepsOn_131 (by decide) rfl ?_
      refine z_aload_n S dX10_stepsOn_133 rfl 0 rfl ?_
      refine z_getF (j := 120) S fo_RX10_44 11 rfl rfl ok_109 dX10_stepsOn_134 ?_
      refine z_iload_n S dX10_stepsOn_137 rfl 3 rfl ?_
      refine z_iald S ok_120 rfl he dX10_stepsOn_138 (fun he => ?_)
      refine z_iload S dX10_stepsOn_139 4 rfl ?_
      refine z_icmp_eq (tgt := 208) S he dX10_stepsOn_141 (by decide) (fun he => ?_) (fun he => ?_)
      · exact p_X10_stepsOn_J91_208 S  he hc hx
      · refine z_aload_n S dX10_stepsOn_144 rfl 0 rfl ?_
        refine z_getF (j := 123) S fo_RX10_53 14 rfl rfl ok_109 dX10_stepsOn_145 ?_
        refine z_bipush (v := 9) S dX10_stepsOn_148 (by decide) ?_
        refine z_iload_n S dX10_stepsOn_150 rfl 3 rfl ?_
        refine z_iadd S dX10_stepsOn_151 ?_
        refine z_iald S ok_123 rfl he dX10_stepsOn_152 (fun he => ?_)
        refine z_ldcw (v := (-2000000000)) S kc_RX10_330 dX10_stepsOn_153 ?_
        refine z_icmp_le (tgt := 208) S he dX10_stepsOn_156 (by decide) (fun he => ?_) (fun he => ?_)
        · exact p_X10_stepsOn_J91_208 S  he hc hx
        · refine z_aload_n S dX10_stepsOn_159 rfl 0 rfl ?_
          refine z_getF (j := 123) S fo_RX10_53 14 rfl rfl ok_109 dX10_stepsOn_160 ?_
          refine z_bipush (v := 9) S dX10_stepsOn_163 (by decide) ?_
          refine z_iload_n S dX10_stepsOn_165 rfl 3 rfl ?_
          refine z_iadd S dX10_stepsOn_166 ?_
          refine z_iald S ok_123 rfl he dX10_stepsOn_167 (fun he => ?_)
          refine z_iload S dX10_stepsOn_168 5 rfl ?_
          refine z_iadd S dX10_stepsOn_170 ?_
          refine z_aload_n S dX10_stepsOn_171 rfl 0 rfl ?_
          refine z_getF (j := 123) S fo_RX10_53 14 rfl rfl ok_109 dX10_stepsOn_172 ?_
          refine z_iload S dX10_stepsOn_175 4 rfl ?_
          refine z_iald S ok_123 rfl he dX10_stepsOn_177 (fun he => ?_)
          refine z_icmp_le (tgt := 208) S he dX10_stepsOn_178 (by decide) (fun he => ?_) (fun he => ?_)
          · exact p_X10_stepsOn_J91_208 S  he hc hx
          · refine z_aload_n S dX10_stepsOn_181 rfl 0 rfl ?_
            refine z_getF (j := 123) S fo_RX10_53 14 rfl rfl ok_109 dX10_stepsOn_182 ?_
            refine z_iload S dX10_stepsOn_185 4 rfl ?_
            refine z_aload_n S dX10_stepsOn_187 rfl 0 rfl ?_
            refine z_getF (j := 123) S fo_RX10_53 14 rfl rfl ok_109 dX10_stepsOn_188 ?_
            refine z_bipush (v := 9) S dX10_stepsOn_191 (by decide) ?_
            refine z_iload_n S dX10_stepsOn_193 rfl 3 rfl ?_
            refine z_iadd S dX10_stepsOn_194 ?_
            refine z_iald S ok_123 rfl he dX10_stepsOn_195 (fun he => ?_)
            refine z_iload S dX10_stepsOn_196 5 rfl ?_
            refine z_iadd S dX10_stepsOn_198 ?_
            refine z_iastb S ok_123 rfl he dX10_stepsOn_199 (fun M7 he => ?_)
            refine z_aload_n S dX10_stepsOn_200 rfl 0 rfl ?_
            refine z_getF (j := 124) S fo_RX10_56 15 rfl rfl ok_109 dX10_stepsOn_201 ?_
            refine z_iload S dX10_stepsOn_204 4 rfl ?_
            refine z_iload_n S dX10_stepsOn_206 rfl 3 rfl ?_
            refine z_iastb S ok_124 rfl he dX10_stepsOn_207 (fun M8 he => ?_)
            exact p_X10_stepsOn_J91_208 S  he hc hx
    · refine z_goto (tgt := 284) S dX10_stepsOn_116 (by decide) ?_
      refine z_iinc (v := (v4 + 1)) (lv' := [(0, .ref (X.2.2 109)), (1, .int v1), (2, .int v2), (3, .int v3), (4, .int (v4 + 1))]) S [1, 2, 3, 4, 0] 4 dX10_stepsOn_284 rfl (by rfl) (by decide) rfl ?_
      refine z_goto (tgt := 91) S dX10_stepsOn_287 (by decide) ?_
      refine z_lv (ks := [0, 1, 2, 3, 4]) rfl ?_
      exact hc _ (Option.some.inj he).symm
set_option maxRecDepth 100000 in
set_option maxHeartbeats 4000000 in
theorem p_X10_stepsOn_L78 {X : Cx} {p : Program} {l : Launch} {e : Env} {s : State} {m : MethodId} {args : Array Value} {below : List Frame} {meth : Method} {c : Code} (S : SB X 1 p s m args meth c cX10_stepsOn 7 (some .int) RX10) {M : Mm} {N : Mm} {r : Int32} {v1 : Int32} {v2 : Int32} {v3 : Int32} {x : (Mm × Int32) ⊕ Mm}  (he : f_X10_stepsOn_L78 M v1 v2 v3 = some x) (hc : ∀ b, x = .inl b → Z X 1 p l e rm_X10_stepsOn s m args below meth c 0 0 (MQ below (QI X 1 r N s.heap.size) args s 0 0 (AA X 1 s.heap.size)) 7 b.1 78 [(0, .ref (X.2.2 109)), (1, .int v1), (2, .int v2), (3, .int b.2)] []) (hx : ∀ b, x = .inr b → Z X 1 p l e rm_X10_stepsOn s m args below meth c 0 0 (MQ below (QI X 1 r N s.heap.size) args s 0 0 (AA X 1 s.heap.size)) 7 b 296 [(0, .ref (X.2.2 109)), (1, .int v1), (2, .int v2)] []) : Z X 1 p l e rm_X10_stepsOn s m args below meth c 0 0 (MQ below (QI X 1 r N s.heap.size) args s 0 0 (AA X 1 s.heap.size)) 7 M 78 [(0, .ref (X.2.2 109)), (1, .int v1), (2, .int v2), (3, .int v3)] [] := by
  unfold f_X10_stepsOn_L78 at he
  refine z_iload_n S dX10_stepsOn_78 rfl 3 rfl ?_
  refine z_aload_n S dX10_stepsOn_79 rfl 0 rfl ?_
  refine z_getF (j := 110) S fo_RX10_7 1 rfl rfl ok_109 dX10_stepsOn_80 ?_
  refine z_iconst (v := 4) S dX10_stepsOn_83 (by decide) ?_
  refine z_iald S ok_110 rfl he dX10_stepsOn_84 (fun he => ?_)
  refine z_icmp_ge (tgt := 296) S he dX10_stepsOn_85 (by decide) (fun he => ?_) (fun he => ?_)
  · refine z_lv (ks := [0, 1, 2]) rfl ?_
    exact hx _ (Option.some.inj he).symm
  · refine z_iconst (v := 0) S dX10_stepsOn_88 (by decide) ?_
    refine z_istore (lv' := [(0, .ref (X.2.2 109)), (1, .int v1), (2, .int v2), (3, .int v3), (4, .int 0)]) S [1, 2, 3, 4, 0] dX10_stepsOn_89 (by decide) rfl ?_
    obtain ⟨e_9, hl, he⟩ := bnd he
    have hX : Z X 1 p l e rm_X10_stepsOn s m args below meth c 0 0 (MQ below (QI X 1 r N s.heap.size) args s 0 0 (AA X 1 s.heap.size)) 7 e_9 290 [(0, .ref (X.2.2 109)), (1, .int v1), (2, .int v2), (3, .int v3)] [] := by
      refine z_iinc (v := (v3 + 1)) (lv' := [(0, .ref (X.2.2 109)), (1, .int v1), (2, .int v2), (3, .int (v3 + 1))]) S [1, 2, 3, 0] 3 dX10_stepsOn_290 rfl (by rfl) (by decide) rfl ?_
      refine z_goto (tgt := 78) S dX10_stepsOn_293 (by decide) ?_
      refine z_lv (ks := [0, 1, 2, 3]) rfl ?_
      exact hc _ (Option.some.inj he).symm
    have hZ9 := loopZ (f := (fun a_9 => f_X10_stepsOn_L91 a_9.1 v1 v2 v3 a_9.2)) (Zh := (fun a_9 => Z X 1 p l e rm_X10_stepsOn s m args below meth c 0 0 (MQ below (QI X 1 r N s.heap.size) args s 0 0 (AA X 1 s.heap.size)) 7 a_9.1 91 [(0, .ref (X.2.2 109)), (1, .int v1), (2, .int v2), (3, .int v3), (4, .int a_9.2)] [])) (fun a_9 x hb hc hr => p_X10_stepsOn_L91 S  hb hc (fun b hxe => by rw [hr b hxe]; exact hX)) FU (M, 0) hl
    exact hZ9
set_option maxRecDepth 100000 in
set_option maxHeartbeats 4000000 in
theorem p_X10_stepsOn_L70 {X : Cx} {p : Program} {l : Launch} {e : Env} {s : State} {m : MethodId} {args : Array Value} {below : List Frame} {meth : Method} {c : Code} (S : SB X 1 p s m args meth c cX10_stepsOn 7 (some .int) RX10) {M : Mm} {N : Mm} {r : Int32} {v1 : Int32} {v2 : Int32} {x : (Mm × Int32) ⊕ Mm}  (he : f_X10_stepsOn_L70 M v1 v2 = some x) (hc : ∀ b, x = .inl b → Z X 1 p l e rm_X10_stepsOn s m args below meth c 0 0 (MQ below (QI X 1 r N s.heap.size) args s 0 0 (AA X 1 s.heap.size)) 7 b.1 70 [(0, .ref (X.2.2 109)), (1, .int v1), (2, .int b.2)] []) (hx : ∀ b, x = .inr b → Z X 1 p l e rm_X10_stepsOn s m args below meth c 0 0 (MQ below (QI X 1 r N s.heap.size) args s 0 0 (AA X 1 s.heap.size)) 7 b 302 [(0, .ref (X.2.2 109))] []) : Z X 1 p l e rm_X10_stepsOn s m args below meth c 0 0 (MQ below (QI X 1 r N s.heap.size) args s 0 0 (AA X 1 s.heap.size)) 7 M 70 [(0, .ref (X.2.2 109)), (1, .int v1), (2, .int v2)] [] := by
  unfold f_X10_stepsOn_L70 at he
  refine z_iload_n S dX10_stepsOn_70 rfl 2 rfl ?_
  refine z_bipush (v := 19) S dX10_stepsOn_71 (by decide) ?_
  refine z_icmp_ge (tgt := 302) S he dX10_stepsOn_73 (by decide) (fun he => ?_) (fun he => ?_)
  · refine z_lv (ks := [0]) rfl ?_
    exact hx _ (Option.some.inj he).symm
  · refine z_iload_n S dX10_stepsOn_76 rfl 1 rfl ?_
    refine z_istore_n (lv' := [(0, .ref (X.2.2 109)), (1, .int v1), (2, .int v2), (3, .int v1)]) S [1, 2, 3, 0] dX10_stepsOn_77 rfl (by decide) rfl ?_
    obtain ⟨e_10, hl, he⟩ := bnd he
    have hX : Z X 1 p l e rm_X10_stepsOn s m args below meth c 0 0 (MQ below (QI X 1 r N s.heap.size) args s 0 0 (AA X 1 s.heap.size)) 7 e_10 296 [(0, .ref (X.2.2 109)), (1, .int v1), (2, .int v2)] [] := by
      refine z_iinc (v := (v2 + 1)) (lv' := [(0, .ref (X.2.2 109)), (1, .int v1), (2, .int (v2 + 1))]) S [1, 2, 0] 2 dX10_stepsOn_296 rfl (by rfl) (by decide) rfl ?_
      refine z_goto (tgt := 70) S dX10_stepsOn_299 (by decide) ?_
      refine z_lv (ks := [0, 1, 2]) rfl ?_
      exact hc _ (Option.some.inj he).symm
    have hZ9 := loopZ (f := (fun a_10 => f_X10_stepsOn_L78 a_10.1 v1 v2 a_10.2)) (Zh := (fun a_10 => Z X 1 p l e rm_X10_stepsOn s m args below meth c 0 0 (MQ below (QI X 1 r N s.heap.size) args s 0 0 (AA X 1 s.heap.size)) 7 a_10.1 78 [(0, .ref (X.2.2 109)), (1, .int v1), (2, .int v2), (3, .int a_10.2)] [])) (fun a_10 x hb hc hr => p_X10_stepsOn_L78 S  hb hc (fun b hxe => by rw [hr b hxe]; exact hX)) FU (M, v1) hl
    exact hZ9
set_option maxRecDepth 100000 in
set_option maxHeartbeats 4000000 in
theorem p_X10_stepsOn_L306 {X : Cx} {p : Program} {l : Launch} {e : Env} {s : State} {m : MethodId} {args : Array Value} {below : List Frame} {meth : Method} {c : Code} (S : SB X 1 p s m args meth c cX10_stepsOn 7 (some .int) RX10) {M : Mm} {N : Mm} {r : Int32} {v2 : Int32} {v3 : Int32} {x : (Int32 × Int32) ⊕ Int32}  (he : f_X10_stepsOn_L306 M v2 v3 = some x) (hc : ∀ b, x = .inl b → Z X 1 p l e rm_X10_stepsOn s m args below meth c 0 0 (MQ below (QI X 1 r N s.heap.size) args s 0 0 (AA X 1 s.heap.size)) 7 M 306 [(0, .ref (X.2.2 109)), (2, .int b.1), (3, .int b.2)] []) (hx : ∀ b, x = .inr b → Z X 1 p l e rm_X10_stepsOn s m args below meth c 0 0 (MQ below (QI X 1 r N s.heap.size) args s 0 0 (AA X 1 s.heap.size)) 7 M 368 [(0, .ref (X.2.2 109)), (2, .int b)] []) : Z X 1 p l e rm_X10_stepsOn s m args below meth c 0 0 (MQ below (QI X 1 r N s.heap.size) args s 0 0 (AA X 1 s.heap.size)) 7 M 306 [(0, .ref (X.2.2 109)), (2, .int v2), (3, .int v3)] [] := by
  unfold f_X10_stepsOn_L306 at he
  refine z_iload_n S dX10_stepsOn_306 rfl 2 rfl ?_
  refine z_aload_n S dX10_stepsOn_307 rfl 0 rfl ?_
  refine z_getF (j := 110) S fo_RX10_7 1 rfl rfl ok_109 dX10_stepsOn_308 ?_
  refine z_iconst (v := 3) S dX10_stepsOn_311 (by decide) ?_
  refine z_iald S ok_110 rfl he dX10_stepsOn_312 (fun he => ?_)
  refine z_icmp_ge (tgt := 368) S he dX10_stepsOn_313 (by decide) (fun he => ?_) (fun he => ?_)
  · refine z_lv (ks := [0, 1]) rfl ?_
    exact hx _ (Option.some.inj he).symm
  · refine z_aload_n S dX10_stepsOn_316 rfl 0 rfl ?_
    refine z_getF (j := 123) S fo_RX10_53 14 rfl rfl ok_109 dX10_stepsOn_317 ?_
    refine z_iload_n S dX10_stepsOn_320 rfl 2 rfl ?_
    refine z_iald S ok_123 rfl he dX10_stepsOn_321 (fun he => ?_)
    refine z_if_le (tgt := 362) S he dX10_stepsOn_322 (by decide) (fun he => ?_) (fun he => ?_)
    · refine z_iinc (v := (v3 + 1)) (lv' := [(0, .ref (X.2.2 109)), (2, .int v2), (3, .int (v3 + 1))]) S [1, 2, 0] 2 dX10_stepsOn_362 rfl (by rfl) (by decide) rfl ?_
      refine z_goto (tgt := 306) S dX10_stepsOn_365 (by decide) ?_
      refine z_lv (ks := [0, 1, 2]) rfl ?_
      exact hc _ (Option.some.inj he).symm
    · refine z_aload_n S dX10_stepsOn_325 rfl 0 rfl ?_
      refine z_getF (j := 119) S fo_RX10_41 10 rfl rfl ok_109 dX10_stepsOn_326 ?_
      refine z_iload_n S dX10_stepsOn_329 rfl 2 rfl ?_
      refine z_iald S ok_119 rfl he dX10_stepsOn_330 (fun he => ?_)
      refine z_aload_n S dX10_stepsOn_331 rfl 0 rfl ?_
      refine z_getF (j := 122) S fo_RX10_50 13 rfl rfl ok_109 dX10_stepsOn_332 ?_
      refine z_iload_n S dX10_stepsOn_335 rfl 2 rfl ?_
      refine z_iald S ok_122 rfl he dX10_stepsOn_336 (fun he => ?_)
      refine z_icmp_ge (tgt := 362) S he dX10_stepsOn_337 (by decide) (fun he => ?_) (fun he => ?_)
      · refine z_iinc (v := (v3 + 1)) (lv' := [(0, .ref (X.2.2 109)), (2, .int v2), (3, .int (v3 + 1))]) S [1, 2, 0] 2 dX10_stepsOn_362 rfl (by rfl) (by decide) rfl ?_
        refine z_goto (tgt := 306) S dX10_stepsOn_365 (by decide) ?_
        refine z_lv (ks := [0, 1, 2]) rfl ?_
        exact hc _ (Option.some.inj he).symm
      · refine z_iload_n S dX10_stepsOn_340 rfl 1 rfl ?_
        refine z_iconst (v := (-1)) S dX10_stepsOn_341 (by decide) ?_
        refine z_icmp_eq (tgt := 360) S he dX10_stepsOn_342 (by decide) (fun he => ?_) (fun he => ?_)
        · refine z_iload_n S dX10_stepsOn_360 rfl 2 rfl ?_
          refine z_istore_n (lv' := [(0, .ref (X.2.2 109)), (2, .int v3), (3, .int v3)]) S [1, 0, 2] dX10_stepsOn_361 rfl (by decide) rfl ?_
          refine z_iinc (v := (v3 + 1)) (lv' := [(0, .ref (X.2.2 109)), (2, .int v3), (3, .int (v3 + 1))]) S [1, 2, 0] 2 dX10_stepsOn_362 rfl (by rfl) (by decide) rfl ?_
          refine z_goto (tgt := 306) S dX10_stepsOn_365 (by decide) ?_
          refine z_lv (ks := [0, 1, 2]) rfl ?_
          exact hc _ (Option.some.inj he).symm
        · refine z_aload_n S dX10_stepsOn_345 rfl 0 rfl ?_
          refine z_getF (j := 123) S fo_RX10_53 14 rfl rfl ok_109 dX10_stepsOn_346 ?_
          refine z_iload_n S dX10_stepsOn_349 rfl 2 rfl ?_
          refine z_iald S ok_123 rfl he dX10_stepsOn_350 (fun he => ?_)
          refine z_aload_n S dX10_stepsOn_351 rfl 0 rfl ?_
          refine z_getF (j := 123) S fo_RX10_53 14 rfl rfl ok_109 dX10_stepsOn_352 ?_
          refine z_iload_n S dX10_stepsOn_355 rfl 1 rfl ?_
          refine z_iald S ok_123 rfl he dX10_stepsOn_356 (fun he => ?_)
          refine z_icmp_le (tgt := 362) S he dX10_stepsOn_357 (by decide) (fun he => ?_) (fun he => ?_)
          · refine z_iinc (v := (v3 + 1)) (lv' := [(0, .ref (X.2.2 109)), (2, .int v2), (3, .int (v3 + 1))]) S [1, 2, 0] 2 dX10_stepsOn_362 rfl (by rfl) (by decide) rfl ?_
            refine z_goto (tgt := 306) S dX10_stepsOn_365 (by decide) ?_
            refine z_lv (ks := [0, 1, 2]) rfl ?_
            exact hc _ (Option.some.inj he).symm
          · refine z_iload_n S dX10_stepsOn_360 rfl 2 rfl ?_
            refine z_istore_n (lv' := [(0, .ref (X.2.2 109)), (2, .int v3), (3, .int v3)]) S [1, 0, 2] dX10_stepsOn_361 rfl (by decide) rfl ?_
            refine z_iinc (v := (v3 + 1)) (lv' := [(0, .ref (X.2.2 109)), (2, .int v3), (3, .int (v3 + 1))]) S [1, 2, 0] 2 dX10_stepsOn_362 rfl (by rfl) (by decide) rfl ?_
            refine z_goto (tgt := 306) S dX10_stepsOn_365 (by decide) ?_
            refine z_lv (ks := [0, 1, 2]) rfl ?_
            exact hc _ (Option.some.inj he).symm
set_option maxRecDepth 100000 in
set_option maxHeartbeats 4000000 in
theorem p_X10_stepsOn_L395 {X : Cx} {p : Program} {l : Launch} {e : Env} {s : State} {m : MethodId} {args : Array Value} {below : List Frame} {meth : Method} {c : Code} (S : SB X 1 p s m args meth c cX10_stepsOn 7 (some .int) RX10) {M : Mm} {N : Mm} {r : Int32} {v3 : Int32} {v4 : Int32} {x : (Mm × Int32) ⊕ Mm}  (he : f_X10_stepsOn_L395 M v3 v4 = some x) (hc : ∀ b, x = .inl b → Z X 1 p l e rm_X10_stepsOn s m args below meth c 0 0 (MQ below (QI X 1 r N s.heap.size) args s 0 0 (AA X 1 s.heap.size)) 7 b.1 395 [(0, .ref (X.2.2 109)), (3, .int v3), (4, .int b.2)] []) (hx : ∀ b, x = .inr b → Z X 1 p l e rm_X10_stepsOn s m args below meth c 0 0 (MQ below (QI X 1 r N s.heap.size) args s 0 0 (AA X 1 s.heap.size)) 7 b 435 [(3, .int v3)] []) : Z X 1 p l e rm_X10_stepsOn s m args below meth c 0 0 (MQ below (QI X 1 r N s.heap.size) args s 0 0 (AA X 1 s.heap.size)) 7 M 395 [(0, .ref (X.2.2 109)), (3, .int v3), (4, .int v4)] [] := by
  unfold f_X10_stepsOn_L395 at he
  refine z_iload S dX10_stepsOn_395 2 rfl ?_
  refine z_iconst (v := (-1)) S dX10_stepsOn_397 (by decide) ?_
  refine z_icmp_eq (tgt := 435) S he dX10_stepsOn_398 (by decide) (fun he => ?_) (fun he => ?_)
  · refine z_lv (ks := [1]) rfl ?_
    exact hx _ (Option.some.inj he).symm
  · refine z_aload_n S dX10_stepsOn_401 rfl 0 rfl ?_
    refine z_getF (j := 124) S fo_RX10_56 15 rfl rfl ok_109 dX10_stepsOn_402 ?_
    refine z_iload S dX10_stepsOn_405 2 rfl ?_
    refine z_iald S ok_124 rfl he dX10_stepsOn_407 (fun he => ?_)
    refine z_istore (lv' := [(0, .ref (X.2.2 109)), (3, .int v3), (4, .int v4), (5, .int (gA M 124 v4))]) S [1, 2, 3, 0] dX10_stepsOn_408 (by decide) rfl ?_
    refine z_aload_n S dX10_stepsOn_410 rfl 0 rfl ?_
    refine z_getF (j := 120) S fo_RX10_44 11 rfl rfl ok_109 dX10_stepsOn_411 ?_
    refine z_iload S dX10_stepsOn_414 3 rfl ?_
    refine z_iald S ok_120 rfl he dX10_stepsOn_416 (fun he => ?_)
    refine z_istore (lv' := [(0, .ref (X.2.2 109)), (3, .int v3), (4, .int v4), (5, .int (gA M 124 v4)), (6, .int (gA M 120 (gA M 124 v4)))]) S [1, 2, 3, 4, 0] dX10_stepsOn_417 (by decide) rfl ?_
    refine z_aload_n S dX10_stepsOn_419 rfl 0 rfl ?_
    refine z_getF (j := 120) S fo_RX10_44 11 rfl rfl ok_109 dX10_stepsOn_420 ?_
    refine z_iload S dX10_stepsOn_423 3 rfl ?_
    refine z_iload S dX10_stepsOn_425 2 rfl ?_
    refine z_iastb S ok_120 rfl he dX10_stepsOn_427 (fun M14 he => ?_)
    refine z_iload S dX10_stepsOn_428 4 rfl ?_
    refine z_istore (lv' := [(0, .ref (X.2.2 109)), (3, .int v3), (4, .int (gA M 120 (gA M 124 v4)))]) S [1, 2, 0] dX10_stepsOn_430 (by decide) rfl ?_
    refine z_goto (tgt := 395) S dX10_stepsOn_432 (by decide) ?_
    refine z_lv (ks := [0, 1, 2]) rfl ?_
    exact hc _ (Option.some.inj he).symm
set_option maxRecDepth 100000 in
set_option maxHeartbeats 4000000 in
theorem K_X10_stepsOn {X : Cx} {l : Launch} {M : Mm} {a1 : Int32} {r : Int32} {N : Mm}  (he : f_X10_stepsOn M a1 = some (r, N)) : KI X 1 l yX10_stepsOn (wz yX10_stepsOn cX10_stepsOn 7 (some .int)) rm_X10_stepsOn [.ref (X.2.2 109), .int a1] M r N := by
  intro sz
  refine K_of (Qc := (fun sz => QI X 1 r N sz)) (own := RX10) (lv0 := [(0, .ref (X.2.2 109)), (1, .int a1)]) (by decide +kernel) rfl (Nat.le_of_ble_eq_true rfl) rfl (fun p e s m args below meth c S => ?_) sz
  · unfold f_X10_stepsOn at he
    refine z_iconst (v := 0) S dX10_stepsOn_0 (by decide) ?_
    refine z_istore_n (lv' := [(0, .ref (X.2.2 109)), (1, .int a1), (2, .int 0)]) S [1, 2, 0] dX10_stepsOn_1 rfl (by decide) rfl ?_
    obtain ⟨e_3, hl, he⟩ := bnd he
    have hX : Z X 1 p l e rm_X10_stepsOn s m args below meth c 0 0 (MQ below (QI X 1 r N s.heap.size) args s 0 0 (AA X 1 s.heap.size)) 7 e_3 68 [(0, .ref (X.2.2 109)), (1, .int a1)] [] := by
      refine z_iconst (v := 0) S dX10_stepsOn_68 (by decide) ?_
      refine z_istore_n (lv' := [(0, .ref (X.2.2 109)), (1, .int a1), (2, .int 0)]) S [1, 2, 0] dX10_stepsOn_69 rfl (by decide) rfl ?_
      obtain ⟨e_11, hl, he⟩ := bnd he
      have hX : Z X 1 p l e rm_X10_stepsOn s m args below meth c 0 0 (MQ below (QI X 1 r N s.heap.size) args s 0 0 (AA X 1 s.heap.size)) 7 e_11 302 [(0, .ref (X.2.2 109))] [] := by
        refine z_iconst (v := (-1)) S dX10_stepsOn_302 (by decide) ?_
        refine z_istore_n (lv' := [(0, .ref (X.2.2 109)), (2, .int (-1))]) S [1, 0] dX10_stepsOn_303 rfl (by decide) rfl ?_
        refine z_iconst (v := 0) S dX10_stepsOn_304 (by decide) ?_
        refine z_istore_n (lv' := [(0, .ref (X.2.2 109)), (2, .int (-1)), (3, .int 0)]) S [1, 2, 0] dX10_stepsOn_305 rfl (by decide) rfl ?_
        obtain ⟨e_12, hl, he⟩ := bnd he
        have hX : Z X 1 p l e rm_X10_stepsOn s m args below meth c 0 0 (MQ below (QI X 1 r N s.heap.size) args s 0 0 (AA X 1 s.heap.size)) 7 e_11 368 [(0, .ref (X.2.2 109)), (2, .int e_12)] [] := by
          refine z_iload_n S dX10_stepsOn_368 rfl 1 rfl ?_
          refine z_iconst (v := (-1)) S dX10_stepsOn_369 (by decide) ?_
          refine z_icmp_ne (tgt := 375) S he dX10_stepsOn_370 (by decide) (fun he => ?_) (fun he => ?_)
          · refine z_aload_n S dX10_stepsOn_375 rfl 0 rfl ?_
            refine z_getF (j := 123) S fo_RX10_53 14 rfl rfl ok_109 dX10_stepsOn_376 ?_
            refine z_iload_n S dX10_stepsOn_379 rfl 1 rfl ?_
            refine z_iald S ok_123 rfl he dX10_stepsOn_380 (fun he => ?_)
            refine z_istore_n (lv' := [(0, .ref (X.2.2 109)), (2, .int e_12), (3, .int (gA e_11 123 e_12))]) S [1, 2, 0] dX10_stepsOn_381 rfl (by decide) rfl ?_
            refine z_aload_n S dX10_stepsOn_382 rfl 0 rfl ?_
            refine z_getF (j := 119) S fo_RX10_41 10 rfl rfl ok_109 dX10_stepsOn_383 ?_
            refine z_iload_n S dX10_stepsOn_386 rfl 1 rfl ?_
            refine z_dup2 S dX10_stepsOn_387 rfl rfl ?_
            refine z_iald S ok_119 rfl he dX10_stepsOn_388 (fun he => ?_)
            refine z_iconst (v := 1) S dX10_stepsOn_389 (by decide) ?_
            refine z_iadd S dX10_stepsOn_390 ?_
            refine z_iastb S ok_119 rfl he dX10_stepsOn_391 (fun M13 he => ?_)
            refine z_iload_n S dX10_stepsOn_392 rfl 1 rfl ?_
            refine z_istore (lv' := [(0, .ref (X.2.2 109)), (3, .int (gA e_11 123 e_12)), (4, .int e_12)]) S [1, 3, 0] dX10_stepsOn_393 (by decide) rfl ?_
            obtain ⟨e_15, hl, he⟩ := bnd he
            have hX : Z X 1 p l e rm_X10_stepsOn s m args below meth c 0 0 (MQ below (QI X 1 r N s.heap.size) args s 0 0 (AA X 1 s.heap.size)) 7 e_15 435 [(3, .int (gA e_11 123 e_12))] [] := by
              refine z_iload_n S dX10_stepsOn_435 rfl 0 rfl ?_
              exact z_iret S (Prod.mk.inj (Option.some.inj he)) dX10_stepsOn_436
            have hZ9 := loopZ (f := (fun a_15 => f_X10_stepsOn_L395 a_15.1 (gA e_11 123 e_12) a_15.2)) (Zh := (fun a_15 => Z X 1 p l e rm_X10_stepsOn s m args below meth c 0 0 (MQ below (QI X 1 r N s.heap.size) args s 0 0 (AA X 1 s.heap.size)) 7 a_15.1 395 [(0, .ref (X.2.2 109)), (3, .int (gA e_11 123 e_12)), (4, .int a_15.2)] [])) (fun a_15 x hb hc hr => p_X10_stepsOn_L395 S  hb hc (fun b hxe => by rw [hr b hxe]; exact hX)) FU (M13, e_12) hl
            exact hZ9
          · refine z_iconst (v := 0) S dX10_stepsOn_373 (by decide) ?_
            exact z_iret S (Prod.mk.inj (Option.some.inj he)) dX10_stepsOn_374
        have hZ9 := loopZ (f := (fun a_12 => f_X10_stepsOn_L306 e_11 a_12.1 a_12.2)) (Zh := (fun a_12 => Z X 1 p l e rm_X10_stepsOn s m args below meth c 0 0 (MQ below (QI X 1 r N s.heap.size) args s 0 0 (AA X 1 s.heap.size)) 7 e_11 306 [(0, .ref (X.2.2 109)), (2, .int a_12.1), (3, .int a_12.2)] [])) (fun a_12 x hb hc hr => p_X10_stepsOn_L306 S  hb hc (fun b hxe => by rw [hr b hxe]; exact hX)) FU ((-1), 0) hl
        exact hZ9
      have hZ9 := loopZ (f := (fun a_11 => f_X10_stepsOn_L70 a_11.1 a1 a_11.2)) (Zh := (fun a_11 => Z X 1 p l e rm_X10_stepsOn s m args below meth c 0 0 (MQ below (QI X 1 r N s.heap.size) args s 0 0 (AA X 1 s.heap.size)) 7 a_11.1 70 [(0, .ref (X.2.2 109)), (1, .int a1), (2, .int a_11.2)] [])) (fun a_11 x hb hc hr => p_X10_stepsOn_L70 S  hb hc (fun b hxe => by rw [hr b hxe]; exact hX)) FU (e_3, 0) hl
      exact hZ9
    have hZ9 := loopZ (f := (fun a_3 => f_X10_stepsOn_L2 a_3.1 a1 a_3.2)) (Zh := (fun a_3 => Z X 1 p l e rm_X10_stepsOn s m args below meth c 0 0 (MQ below (QI X 1 r N s.heap.size) args s 0 0 (AA X 1 s.heap.size)) 7 a_3.1 2 [(0, .ref (X.2.2 109)), (1, .int a1), (2, .int a_3.2)] [])) (fun a_3 x hb hc hr => p_X10_stepsOn_L2 S  hb hc (fun b hxe => by rw [hr b hxe]; exact hX)) FU (M, 0) hl
    exact hZ9
set_option maxRecDepth 100000 in
set_option maxHeartbeats 4000000 in
theorem p_X10_dearestFrom_L2 {X : Cx} {p : Program} {l : Launch} {e : Env} {s : State} {m : MethodId} {args : Array Value} {below : List Frame} {meth : Method} {c : Code} (S : SB X 1 p s m args meth c cX10_dearestFrom 4 (some .int) RX10) {M : Mm} {N : Mm} {r : Int32} {v1 : Int32} {v2 : Int32} {x : (Mm × Int32) ⊕ Mm}  (he : f_X10_dearestFrom_L2 M v1 v2 = some x) (hc : ∀ b, x = .inl b → Z X 1 p l e rm_X10_dearestFrom s m args below meth c 0 0 (MQ below (QI X 1 r N s.heap.size) args s 0 0 (AA X 1 s.heap.size)) 4 b.1 2 [(0, .ref (X.2.2 109)), (1, .int v1), (2, .int b.2)] []) (hx : ∀ b, x = .inr b → Z X 1 p l e rm_X10_dearestFrom s m args below meth c 0 0 (MQ below (QI X 1 r N s.heap.size) args s 0 0 (AA X 1 s.heap.size)) 4 b 21 [(0, .ref (X.2.2 109)), (1, .int v1)] []) : Z X 1 p l e rm_X10_dearestFrom s m args below meth c 0 0 (MQ below (QI X 1 r N s.heap.size) args s 0 0 (AA X 1 s.heap.size)) 4 M 2 [(0, .ref (X.2.2 109)), (1, .int v1), (2, .int v2)] [] := by
  unfold f_X10_dearestFrom_L2 at he
  refine z_iload_n S dX10_dearestFrom_2 rfl 2 rfl ?_
  refine z_bipush (v := 10) S dX10_dearestFrom_3 (by decide) ?_
  refine z_icmp_ge (tgt := 21) S he dX10_dearestFrom_5 (by decide) (fun he => ?_) (fun he => ?_)
  · refine z_lv (ks := [0, 1]) rfl ?_
    exact hx _ (Option.some.inj he).symm
  · refine z_aload_n S dX10_dearestFrom_8 rfl 0 rfl ?_
    refine z_getF (j := 120) S fo_RX10_44 11 rfl rfl ok_109 dX10_dearestFrom_9 ?_
    refine z_iload_n S dX10_dearestFrom_12 rfl 2 rfl ?_
    refine z_iconst (v := (-1)) S dX10_dearestFrom_13 (by decide) ?_
    refine z_iastb S ok_120 rfl he dX10_dearestFrom_14 (fun M1 he => ?_)
    refine z_iinc (v := (v2 + 1)) (lv' := [(0, .ref (X.2.2 109)), (1, .int v1), (2, .int (v2 + 1))]) S [1, 2, 0] 2 dX10_dearestFrom_15 rfl (by rfl) (by decide) rfl ?_
    refine z_goto (tgt := 2) S dX10_dearestFrom_18 (by decide) ?_
    refine z_lv (ks := [0, 1, 2]) rfl ?_
    exact hc _ (Option.some.inj he).symm
set_option maxRecDepth 100000 in
set_option maxHeartbeats 4000000 in
theorem p_X10_dearestFrom_L23 {X : Cx} {p : Program} {l : Launch} {e : Env} {s : State} {m : MethodId} {args : Array Value} {below : List Frame} {meth : Method} {c : Code} (S : SB X 1 p s m args meth c cX10_dearestFrom 4 (some .int) RX10) {M : Mm} {N : Mm} {r : Int32} {v1 : Int32} {v2 : Int32} {x : (Mm × Int32) ⊕ Mm}  (he : f_X10_dearestFrom_L23 M v1 v2 = some x) (hc : ∀ b, x = .inl b → Z X 1 p l e rm_X10_dearestFrom s m args below meth c 0 0 (MQ below (QI X 1 r N s.heap.size) args s 0 0 (AA X 1 s.heap.size)) 4 b.1 23 [(0, .ref (X.2.2 109)), (1, .int v1), (2, .int b.2)] []) (hx : ∀ b, x = .inr b → Z X 1 p l e rm_X10_dearestFrom s m args below meth c 0 0 (MQ below (QI X 1 r N s.heap.size) args s 0 0 (AA X 1 s.heap.size)) 4 b 42 [(0, .ref (X.2.2 109)), (1, .int v1)] []) : Z X 1 p l e rm_X10_dearestFrom s m args below meth c 0 0 (MQ below (QI X 1 r N s.heap.size) args s 0 0 (AA X 1 s.heap.size)) 4 M 23 [(0, .ref (X.2.2 109)), (1, .int v1), (2, .int v2)] [] := by
  unfold f_X10_dearestFrom_L23 at he
  refine z_iload_n S dX10_dearestFrom_23 rfl 2 rfl ?_
  refine z_bipush (v := 9) S dX10_dearestFrom_24 (by decide) ?_
  refine z_icmp_ge (tgt := 42) S he dX10_dearestFrom_26 (by decide) (fun he => ?_) (fun he => ?_)
  · refine z_lv (ks := [0, 1]) rfl ?_
    exact hx _ (Option.some.inj he).symm
  · refine z_aload_n S dX10_dearestFrom_29 rfl 0 rfl ?_
    refine z_getF (j := 119) S fo_RX10_41 10 rfl rfl ok_109 dX10_dearestFrom_30 ?_
    refine z_iload_n S dX10_dearestFrom_33 rfl 2 rfl ?_
    refine z_iconst (v := 0) S dX10_dearestFrom_34 (by decide) ?_
    refine z_iastb S ok_119 rfl he dX10_dearestFrom_35 (fun M3 he => ?_)
    refine z_iinc (v := (v2 + 1)) (lv' := [(0, .ref (X.2.2 109)), (1, .int v1), (2, .int (v2 + 1))]) S [1, 2, 0] 2 dX10_dearestFrom_36 rfl (by rfl) (by decide) rfl ?_
    refine z_goto (tgt := 23) S dX10_dearestFrom_39 (by decide) ?_
    refine z_lv (ks := [0, 1, 2]) rfl ?_
    exact hc _ (Option.some.inj he).symm
set_option maxRecDepth 100000 in
set_option maxHeartbeats 4000000 in
theorem p_X10_dearestFrom_L50 {X : Cx} {p : Program} {l : Launch} {e : Env} {s : State} {m : MethodId} {args : Array Value} {below : List Frame} {meth : Method} {c : Code} (S : SB X 1 p s m args meth c cX10_dearestFrom 4 (some .int) RX10) {M : Mm} {N : Mm} {r : Int32} {v1 : Int32} {v2 : Int32} {v3 : Int32} {x : (Mm × Int32 × Int32) ⊕ (Mm × Int32)}  (he : f_X10_dearestFrom_L50 M v1 v2 v3 = some x) (hc : ∀ b, x = .inl b → Z X 1 p l e rm_X10_dearestFrom s m args below meth c 0 0 (MQ below (QI X 1 r N s.heap.size) args s 0 0 (AA X 1 s.heap.size)) 4 b.1 50 [(0, .ref (X.2.2 109)), (1, .int v1), (2, .int b.2.1), (3, .int b.2.2)] []) (hx : ∀ b, x = .inr b → Z X 1 p l e rm_X10_dearestFrom s m args below meth c 0 0 (MQ below (QI X 1 r N s.heap.size) args s 0 0 (AA X 1 s.heap.size)) 4 b.1 67 [(2, .int b.2)] []) : Z X 1 p l e rm_X10_dearestFrom s m args below meth c 0 0 (MQ below (QI X 1 r N s.heap.size) args s 0 0 (AA X 1 s.heap.size)) 4 M 50 [(0, .ref (X.2.2 109)), (1, .int v1), (2, .int v2), (3, .int v3)] [] := by
  unfold f_X10_dearestFrom_L50 at he
  refine z_iload_n S dX10_dearestFrom_50 rfl 3 rfl ?_
  refine z_if_le (tgt := 67) S he dX10_dearestFrom_51 (by decide) (fun he => ?_) (fun he => ?_)
  · refine z_lv (ks := [2]) rfl ?_
    exact hx _ (Option.some.inj he).symm
  · refine z_iload_n S dX10_dearestFrom_54 rfl 2 rfl ?_
    refine z_iload_n S dX10_dearestFrom_55 rfl 3 rfl ?_
    refine z_iadd S dX10_dearestFrom_56 ?_
    refine z_istore_n (lv' := [(0, .ref (X.2.2 109)), (1, .int v1), (2, .int (v2 + v3))]) S [1, 2, 0] dX10_dearestFrom_57 rfl (by decide) rfl ?_
    refine z_aload_n S dX10_dearestFrom_58 rfl 0 rfl ?_
    refine z_iload_n S dX10_dearestFrom_59 rfl 1 rfl ?_
    obtain ⟨⟨r7, M8⟩, h9, he⟩ := bnd he
    dsimp only at he
    refine z_cVI (As := [.int v1]) S cv_RX10_327 (K_X10_stepsOn  h9) ok_109 (by decide) (q := (RX10, TX10, 28)) rfl rfl ⟨rfl, rfl⟩ ⟨Nat.le_of_ble_eq_true rfl, Nat.le_of_ble_eq_true rfl⟩ ⟨Nat.le_refl _, Nat.le_refl _⟩ rfl rfl (Nat.le_of_ble_eq_true rfl) dX10_dearestFrom_60 ?_
    refine z_istore_n (lv' := [(0, .ref (X.2.2 109)), (1, .int v1), (2, .int (v2 + v3)), (3, .int r7)]) S [1, 2, 3, 0] dX10_dearestFrom_63 rfl (by decide) rfl ?_
    refine z_goto (tgt := 50) S dX10_dearestFrom_64 (by decide) ?_
    refine z_lv (ks := [0, 1, 2, 3]) rfl ?_
    exact hc _ (Option.some.inj he).symm
set_option maxRecDepth 100000 in
set_option maxHeartbeats 4000000 in
theorem K_X10_dearestFrom {X : Cx} {l : Launch} {M : Mm} {a1 : Int32} {r : Int32} {N : Mm}  (he : f_X10_dearestFrom M a1 = some (r, N)) : KI X 1 l yX10_dearestFrom (wz yX10_dearestFrom cX10_dearestFrom 4 (some .int)) rm_X10_dearestFrom [.ref (X.2.2 109), .int a1] M r N := by
  intro sz
  refine K_of (Qc := (fun sz => QI X 1 r N sz)) (own := RX10) (lv0 := [(0, .ref (X.2.2 109)), (1, .int a1)]) (by decide +kernel) rfl (Nat.le_of_ble_eq_true rfl) rfl (fun p e s m args below meth c S => ?_) sz
  · unfold f_X10_dearestFrom at he
    refine z_iconst (v := 0) S dX10_dearestFrom_0 (by decide) ?_
    refine z_istore_n (lv' := [(0, .ref (X.2.2 109)), (1, .int a1), (2, .int 0)]) S [1, 2, 0] dX10_dearestFrom_1 rfl (by decide) rfl ?_
    obtain ⟨e_2, hl, he⟩ := bnd he
    have hX : Z X 1 p l e rm_X10_dearestFrom s m args below meth c 0 0 (MQ below (QI X 1 r N s.heap.size) args s 0 0 (AA X 1 s.heap.size)) 4 e_2 21 [(0, .ref (X.2.2 109)), (1, .int a1)] [] := by
      refine z_iconst (v := 0) S dX10_dearestFrom_21 (by decide) ?_
      refine z_istore_n (lv' := [(0, .ref (X.2.2 109)), (1, .int a1), (2, .int 0)]) S [1, 2, 0] dX10_dearestFrom_22 rfl (by decide) rfl ?_
      obtain ⟨e_4, hl, he⟩ := bnd he
      have hX : Z X 1 p l e rm_X10_dearestFrom s m args below meth c 0 0 (MQ below (QI X 1 r N s.heap.size) args s 0 0 (AA X 1 s.heap.size)) 4 e_4 42 [(0, .ref (X.2.2 109)), (1, .int a1)] [] := by
        refine z_iconst (v := 0) S dX10_dearestFrom_42 (by decide) ?_
        refine z_istore_n (lv' := [(0, .ref (X.2.2 109)), (1, .int a1), (2, .int 0)]) S [1, 2, 0] dX10_dearestFrom_43 rfl (by decide) rfl ?_
        refine z_aload_n S dX10_dearestFrom_44 rfl 0 rfl ?_
        refine z_iload_n S dX10_dearestFrom_45 rfl 1 rfl ?_
        obtain ⟨⟨r5, M6⟩, h9, he⟩ := bnd he
        dsimp only at he
        refine z_cVI (As := [.int a1]) S cv_RX10_327 (K_X10_stepsOn  h9) ok_109 (by decide) (q := (RX10, TX10, 28)) rfl rfl ⟨rfl, rfl⟩ ⟨Nat.le_of_ble_eq_true rfl, Nat.le_of_ble_eq_true rfl⟩ ⟨Nat.le_refl _, Nat.le_refl _⟩ rfl rfl (Nat.le_of_ble_eq_true rfl) dX10_dearestFrom_46 ?_
        refine z_istore_n (lv' := [(0, .ref (X.2.2 109)), (1, .int a1), (2, .int 0), (3, .int r5)]) S [1, 2, 3, 0] dX10_dearestFrom_49 rfl (by decide) rfl ?_
        obtain ⟨e_9, hl, he⟩ := bnd he
        have hX : Z X 1 p l e rm_X10_dearestFrom s m args below meth c 0 0 (MQ below (QI X 1 r N s.heap.size) args s 0 0 (AA X 1 s.heap.size)) 4 e_9.1 67 [(2, .int e_9.2)] [] := by
          refine z_iload_n S dX10_dearestFrom_67 rfl 0 rfl ?_
          exact z_iret S (Prod.mk.inj (Option.some.inj he)) dX10_dearestFrom_68
        have hZ9 := loopZ (f := (fun a_9 => f_X10_dearestFrom_L50 a_9.1 a1 a_9.2.1 a_9.2.2)) (Zh := (fun a_9 => Z X 1 p l e rm_X10_dearestFrom s m args below meth c 0 0 (MQ below (QI X 1 r N s.heap.size) args s 0 0 (AA X 1 s.heap.size)) 4 a_9.1 50 [(0, .ref (X.2.2 109)), (1, .int a1), (2, .int a_9.2.1), (3, .int a_9.2.2)] [])) (fun a_9 x hb hc hr => p_X10_dearestFrom_L50 S  hb hc (fun b hxe => by rw [hr b hxe]; exact hX)) FU (M6, 0, r5) hl
        exact hZ9
      have hZ9 := loopZ (f := (fun a_4 => f_X10_dearestFrom_L23 a_4.1 a1 a_4.2)) (Zh := (fun a_4 => Z X 1 p l e rm_X10_dearestFrom s m args below meth c 0 0 (MQ below (QI X 1 r N s.heap.size) args s 0 0 (AA X 1 s.heap.size)) 4 a_4.1 23 [(0, .ref (X.2.2 109)), (1, .int a1), (2, .int a_4.2)] [])) (fun a_4 x hb hc hr => p_X10_dearestFrom_L23 S  hb hc (fun b hxe => by rw [hr b hxe]; exact hX)) FU (e_2, 0) hl
      exact hZ9
    have hZ9 := loopZ (f := (fun a_2 => f_X10_dearestFrom_L2 a_2.1 a1 a_2.2)) (Zh := (fun a_2 => Z X 1 p l e rm_X10_dearestFrom s m args below meth c 0 0 (MQ below (QI X 1 r N s.heap.size) args s 0 0 (AA X 1 s.heap.size)) 4 a_2.1 2 [(0, .ref (X.2.2 109)), (1, .int a1), (2, .int a_2.2)] [])) (fun a_2 x hb hc hr => p_X10_dearestFrom_L2 S  hb hc (fun b hxe => by rw [hr b hxe]; exact hX)) FU (M, 0) hl
    exact hZ9
set_option maxRecDepth 100000 in
set_option maxHeartbeats 4000000 in
theorem p_X10_firstFor_J2_75 {X : Cx} {p : Program} {l : Launch} {e : Env} {s : State} {m : MethodId} {args : Array Value} {below : List Frame} {meth : Method} {c : Code} (S : SB X 1 p s m args meth c cX10_firstFor 5 (some .int) RX10) {M : Mm} {N : Mm} {r : Int32} {v1 : Int32} {v2 : Int32} {v3 : Int32} {t0 : Int32} {x : (Mm × Int32) ⊕ ((Int32 × Mm) ⊕ Mm)}  (he : f_X10_firstFor_J2_75 M v1 v2 v3 t0 = some x) (hc : ∀ b, x = .inl b → Z X 1 p l e rm_X10_firstFor s m args below meth c 0 0 (MQ below (QI X 1 r N s.heap.size) args s 0 0 (AA X 1 s.heap.size)) 5 b.1 2 [(0, .ref (X.2.2 109)), (1, .int v1), (2, .int v2), (3, .int b.2)] []) (hx : ∀ b, x = .inr (.inr b) → Z X 1 p l e rm_X10_firstFor s m args below meth c 0 0 (MQ below (QI X 1 r N s.heap.size) args s 0 0 (AA X 1 s.heap.size)) 5 b 100 [] []) (hr : ∀ v, x = .inr (.inl v) → v = (r, N)) : Z X 1 p l e rm_X10_firstFor s m args below meth c 0 0 (MQ below (QI X 1 r N s.heap.size) args s 0 0 (AA X 1 s.heap.size)) 5 M 75 [(0, .ref (X.2.2 109)), (1, .int v1), (2, .int v2), (3, .int v3)] [.int t0] := by
  unfold f_X10_firstFor_J2_75 at he
  refine z_istore (lv' := [(0, .ref (X.2.2 109)), (1, .int v1), (2, .int v2), (3, .int v3), (4, .int t0)]) S [1, 2, 3, 4, 0] dX10_firstFor_75 (by decide) rfl ?_
  refine z_aload_n S dX10_firstFor_77 rfl 0 rfl ?_
  refine z_getF (j := 122) S fo_RX10_50 13 rfl rfl ok_109 dX10_firstFor_78 ?_
  refine z_iload_n S dX10_firstFor_81 rfl 3 rfl ?_
  refine z_dup2 S dX10_firstFor_82 rfl rfl ?_
  refine z_iald S ok_122 rfl he dX10_firstFor_83 (fun he => ?_)
  refine z_iconst (v := 1) S dX10_firstFor_84 (by decide) ?_
  refine z_iadd S dX10_firstFor_85 ?_
  refine z_iastb S ok_122 rfl he dX10_firstFor_86 (fun M4 he => ?_)
  refine z_iload S dX10_firstFor_87 4 rfl ?_
  refine z_if_eq (tgt := 94) S he dX10_firstFor_89 (by decide) (fun he => ?_) (fun he => ?_)
  · refine z_iinc (v := (v3 + 1)) (lv' := [(0, .ref (X.2.2 109)), (1, .int v1), (2, .int v2), (3, .int (v3 + 1)), (4, .int t0)]) S [1, 2, 3, 0, 4] 3 dX10_firstFor_94 rfl (by rfl) (by decide) rfl ?_
    refine z_goto (tgt := 2) S dX10_firstFor_97 (by decide) ?_
    refine z_lv (ks := [0, 1, 2, 3]) rfl ?_
    exact hc _ (Option.some.inj he).symm
  · refine z_iload_n S dX10_firstFor_92 rfl 3 rfl ?_
    exact z_iret S (Prod.mk.inj (hr _ (Option.some.inj he).symm)) dX10_firstFor_93
set_option maxRecDepth 100000 in
set_option maxHeartbeats 4000000 in
theorem p_X10_firstFor_L2 {X : Cx} {p : Program} {l : Launch} {e : Env} {s : State} {m : MethodId} {args : Array Value} {below : List Frame} {meth : Method} {c : Code} (S : SB X 1 p s m args meth c cX10_firstFor 5 (some .int) RX10) {M : Mm} {N : Mm} {r : Int32} {v1 : Int32} {v2 : Int32} {v3 : Int32} {x : (Mm × Int32) ⊕ ((Int32 × Mm) ⊕ Mm)}  (he : f_X10_firstFor_L2 M v1 v2 v3 = some x) (hc : ∀ b, x = .inl b → Z X 1 p l e rm_X10_firstFor s m args below meth c 0 0 (MQ below (QI X 1 r N s.heap.size) args s 0 0 (AA X 1 s.heap.size)) 5 b.1 2 [(0, .ref (X.2.2 109)), (1, .int v1), (2, .int v2), (3, .int b.2)] []) (hx : ∀ b, x = .inr (.inr b) → Z X 1 p l e rm_X10_firstFor s m args below meth c 0 0 (MQ below (QI X 1 r N s.heap.size) args s 0 0 (AA X 1 s.heap.size)) 5 b 100 [] []) (hr : ∀ v, x = .inr (.inl v) → v = (r, N)) : Z X 1 p l e rm_X10_firstFor s m args below meth c 0 0 (MQ below (QI X 1 r N s.heap.size) args s 0 0 (AA X 1 s.heap.size)) 5 M 2 [(0, .ref (X.2.2 109)), (1, .int v1), (2, .int v2), (3, .int v3)] [] := by
  unfold f_X10_firstFor_L2 at he
  refine z_iload_n S dX10_firstFor_2 rfl 3 rfl ?_
  refine z_aload_n S dX10_firstFor_3 rfl 0 rfl ?_
  refine z_getF (j := 110) S fo_RX10_7 1 rfl rfl ok_109 dX10_firstFor_4 ?_
  refine z_iconst (v := 3) S dX10_firstFor_7 (by decide) ?_
  refine z_iald S ok_110 rfl he dX10_firstFor_8 (fun he => ?_)
  refine z_icmp_ge (tgt := 100) S he dX10_firstFor_9 (by decide) (fun he => ?_) (fun he => ?_)
  · refine z_lv (ks := []) rfl ?_
    exact hx _ (Option.some.inj he).symm
  · refine z_aload_n S dX10_firstFor_12 rfl 0 rfl ?_
    refine z_getF (j := 121) S fo_RX10_47 12 rfl rfl ok_109 dX10_firstFor_13 ?_
    refine z_iload_n S dX10_firstFor_16 rfl 1 rfl ?_
    refine z_iald S ok_121 rfl he dX10_firstFor_17 (fun he => ?_)
    refine z_iload_n S dX10_firstFor_18 rfl 3 rfl ?_
    refine z_cSI (As := [.int (gA M 121 v1), .int v3]) S cs_RX10_117 (K_X10_isOf  rfl) ⟨rfl, rfl⟩ ⟨Nat.le_of_ble_eq_true rfl, Nat.le_of_ble_eq_true rfl⟩ ⟨Nat.le_refl _, Nat.le_refl _⟩ rfl rfl (Nat.le_of_ble_eq_true rfl) dX10_firstFor_19 ?_
    refine z_ifb_eq (tgt := 94) S he dX10_firstFor_22 (by decide) (fun he => ?_) (fun he => ?_)
    · refine z_iinc (v := (v3 + 1)) (lv' := [(0, .ref (X.2.2 109)), (1, .int v1), (2, .int v2), (3, .int (v3 + 1))]) S [1, 2, 3, 0] 3 dX10_firstFor_94 rfl (by rfl) (by decide) rfl ?_
      refine z_goto (tgt := 2) S dX10_firstFor_97 (by decide) ?_
      refine z_lv (ks := [0, 1, 2, 3]) rfl ?_
      exact hc _ (Option.some.inj he).symm
    · refine z_aload_n S dX10_firstFor_25 rfl 0 rfl ?_
      refine z_getF (j := 122) S fo_RX10_50 13 rfl rfl ok_109 dX10_firstFor_26 ?_
      refine z_iload_n S dX10_firstFor_29 rfl 3 rfl ?_
      refine z_iald S ok_122 rfl he dX10_firstFor_30 (fun he => ?_)
      refine z_if_ne (tgt := 37) S he dX10_firstFor_31 (by decide) (fun he => ?_) (fun he => ?_)
      · refine z_aload_n S dX10_firstFor_37 rfl 0 rfl ?_
        refine z_getF (j := 122) S fo_RX10_50 13 rfl rfl ok_109 dX10_firstFor_38 ?_
        refine z_iload_n S dX10_firstFor_41 rfl 3 rfl ?_
        refine z_dup2 S dX10_firstFor_42 rfl rfl ?_
        refine z_iald S ok_122 rfl he dX10_firstFor_43 (fun he => ?_)
        refine z_iconst (v := 1) S dX10_firstFor_44 (by decide) ?_
        refine z_isub S dX10_firstFor_45 ?_
        refine z_iastb S ok_122 rfl he dX10_firstFor_46 (fun M1 he => ?_)
        refine z_aload_n S dX10_firstFor_47 rfl 0 rfl ?_
        refine z_iload_n S dX10_firstFor_48 rfl 1 rfl ?_
        refine z_iconst (v := 1) S dX10_firstFor_49 (by decide) ?_
        refine z_iadd S dX10_firstFor_50 ?_
        obtain ⟨⟨r2, M3⟩, h9, he⟩ := bnd he
        dsimp only at he
        refine z_cVI (As := [.int (v1 + 1)]) S cv_RX10_331 (K_X10_dearestFrom  h9) ok_109 (by decide) (q := (RX10, TX10, 28)) rfl rfl ⟨rfl, rfl⟩ ⟨Nat.le_of_ble_eq_true rfl, Nat.le_of_ble_eq_true rfl⟩ ⟨Nat.le_refl _, Nat.le_refl _⟩ rfl rfl (Nat.le_of_ble_eq_true rfl) dX10_firstFor_51 ?_
        refine z_aload_n S dX10_firstFor_54 rfl 0 rfl ?_
        refine z_getF (j := 116) S fo_RX10_32 7 rfl rfl ok_109 dX10_firstFor_55 ?_
        refine z_bipush (v := 10) S dX10_firstFor_58 (by decide) ?_
        refine z_iload_n S dX10_firstFor_60 rfl 3 rfl ?_
        refine z_imul S dX10_firstFor_61 ?_
        refine z_iload_n S dX10_firstFor_62 rfl 1 rfl ?_
        refine z_iadd S dX10_firstFor_63 ?_
        refine z_iald S ok_116 rfl he dX10_firstFor_64 (fun he => ?_)
        refine z_iadd S dX10_firstFor_65 ?_
        refine z_iload_n S dX10_firstFor_66 rfl 2 rfl ?_
        refine z_icmp_ne (tgt := 74) S he dX10_firstFor_67 (by decide) (fun he => ?_) (fun he => ?_)
        · refine z_iconst (v := 0) S dX10_firstFor_74 (by decide) ?_
          exact p_X10_firstFor_J2_75 S  he hc hx hr
        · refine z_iconst (v := 1) S dX10_firstFor_70 (by decide) ?_
          refine z_goto (tgt := 75) S dX10_firstFor_71 (by decide) ?_
          exact p_X10_firstFor_J2_75 S  he hc hx hr
      · refine z_goto (tgt := 94) S dX10_firstFor_34 (by decide) ?_
        refine z_iinc (v := (v3 + 1)) (lv' := [(0, .ref (X.2.2 109)), (1, .int v1), (2, .int v2), (3, .int (v3 + 1))]) S [1, 2, 3, 0] 3 dX10_firstFor_94 rfl (by rfl) (by decide) rfl ?_
        refine z_goto (tgt := 2) S dX10_firstFor_97 (by decide) ?_
        refine z_lv (ks := [0, 1, 2, 3]) rfl ?_
        exact hc _ (Option.some.inj he).symm
set_option maxRecDepth 100000 in
set_option maxHeartbeats 4000000 in
theorem K_X10_firstFor {X : Cx} {l : Launch} {M : Mm} {a1 : Int32} {a2 : Int32} {r : Int32} {N : Mm}  (he : f_X10_firstFor M a1 a2 = some (r, N)) : KI X 1 l yX10_firstFor (wz yX10_firstFor cX10_firstFor 5 (some .int)) rm_X10_firstFor [.ref (X.2.2 109), .int a1, .int a2] M r N := by
  intro sz
  refine K_of (Qc := (fun sz => QI X 1 r N sz)) (own := RX10) (lv0 := [(0, .ref (X.2.2 109)), (1, .int a1), (2, .int a2)]) (by decide +kernel) rfl (Nat.le_of_ble_eq_true rfl) rfl (fun p e s m args below meth c S => ?_) sz
  · unfold f_X10_firstFor at he
    refine z_iconst (v := 0) S dX10_firstFor_0 (by decide) ?_
    refine z_istore_n (lv' := [(0, .ref (X.2.2 109)), (1, .int a1), (2, .int a2), (3, .int 0)]) S [1, 2, 3, 0] dX10_firstFor_1 rfl (by decide) rfl ?_
    obtain ⟨r9, hl, hr1, hr2⟩ := bndS he
    have hX : ∀ e_5, r9 = .inr e_5 → Z X 1 p l e rm_X10_firstFor s m args below meth c 0 0 (MQ below (QI X 1 r N s.heap.size) args s 0 0 (AA X 1 s.heap.size)) 5 e_5 100 [] [] := by
      intro e_5 hre
      have he := hr2 e_5 hre
      refine z_iconst (v := (-1)) S dX10_firstFor_100 (by decide) ?_
      exact z_iret S (Prod.mk.inj (Option.some.inj he)) dX10_firstFor_101
    have hZ9 := loopZ (f := (fun a_5 => f_X10_firstFor_L2 a_5.1 a1 a2 a_5.2)) (Zh := (fun a_5 => Z X 1 p l e rm_X10_firstFor s m args below meth c 0 0 (MQ below (QI X 1 r N s.heap.size) args s 0 0 (AA X 1 s.heap.size)) 5 a_5.1 2 [(0, .ref (X.2.2 109)), (1, .int a1), (2, .int a2), (3, .int a_5.2)] [])) (fun a_5 x hb hc hr9 => p_X10_firstFor_L2 S  hb hc (fun b hxe => hX b (hr9 _ hxe).symm) (fun v hxv => Option.some.inj (hr1 v (hr9 _ hxv).symm))) FU (M, 0) hl
    exact hZ9
set_option maxRecDepth 100000 in
set_option maxHeartbeats 4000000 in
theorem p_X10_dearest_L37 {X : Cx} {p : Program} {l : Launch} {e : Env} {s : State} {m : MethodId} {args : Array Value} {below : List Frame} {meth : Method} {c : Code} (S : SB X 1 p s m args meth c cX10_dearest 5 (some .int) RX10) {M : Mm} {N : Mm} {r : Int32} {v1 : Int32} {v2 : Int32} {x : (Mm × Int32) ⊕ Mm}  (he : f_X10_dearest_L37 M v1 v2 = some x) (hc : ∀ b, x = .inl b → Z X 1 p l e rm_X10_dearest s m args below meth c 0 0 (MQ below (QI X 1 r N s.heap.size) args s 0 0 (AA X 1 s.heap.size)) 5 b.1 37 [(0, .ref (X.2.2 109)), (1, .int v1), (2, .int b.2)] []) (hx : ∀ b, x = .inr b → Z X 1 p l e rm_X10_dearest s m args below meth c 0 0 (MQ below (QI X 1 r N s.heap.size) args s 0 0 (AA X 1 s.heap.size)) 5 b 65 [(0, .ref (X.2.2 109)), (1, .int v1)] []) : Z X 1 p l e rm_X10_dearest s m args below meth c 0 0 (MQ below (QI X 1 r N s.heap.size) args s 0 0 (AA X 1 s.heap.size)) 5 M 37 [(0, .ref (X.2.2 109)), (1, .int v1), (2, .int v2)] [] := by
  unfold f_X10_dearest_L37 at he
  refine z_iload_n S dX10_dearest_37 rfl 2 rfl ?_
  refine z_aload_n S dX10_dearest_38 rfl 0 rfl ?_
  refine z_getF (j := 110) S fo_RX10_7 1 rfl rfl ok_109 dX10_dearest_39 ?_
  refine z_iconst (v := 3) S dX10_dearest_42 (by decide) ?_
  refine z_iald S ok_110 rfl he dX10_dearest_43 (fun he => ?_)
  refine z_icmp_ge (tgt := 65) S he dX10_dearest_44 (by decide) (fun he => ?_) (fun he => ?_)
  · refine z_lv (ks := [0, 1]) rfl ?_
    exact hx _ (Option.some.inj he).symm
  · refine z_aload_n S dX10_dearest_47 rfl 0 rfl ?_
    refine z_getF (j := 122) S fo_RX10_50 13 rfl rfl ok_109 dX10_dearest_48 ?_
    refine z_iload_n S dX10_dearest_51 rfl 2 rfl ?_
    refine z_aload_n S dX10_dearest_52 rfl 0 rfl ?_
    refine z_iload_n S dX10_dearest_53 rfl 2 rfl ?_
    refine z_iconst (v := 2) S dX10_dearest_54 (by decide) ?_
    obtain ⟨r3, h9, he⟩ := bnd he
    refine z_cVI (As := [.int v2, .int 2]) S cv_RX10_70 (K_X10_of  h9) ok_109 (by decide) (q := (RX10, TX10, 28)) rfl rfl ⟨rfl, rfl⟩ ⟨Nat.le_of_ble_eq_true rfl, Nat.le_of_ble_eq_true rfl⟩ ⟨Nat.le_refl _, Nat.le_refl _⟩ rfl rfl (Nat.le_of_ble_eq_true rfl) dX10_dearest_55 ?_
    refine z_iastb S ok_122 rfl he dX10_dearest_58 (fun M4 he => ?_)
    refine z_iinc (v := (v2 + 1)) (lv' := [(0, .ref (X.2.2 109)), (1, .int v1), (2, .int (v2 + 1))]) S [1, 2, 0] 2 dX10_dearest_59 rfl (by rfl) (by decide) rfl ?_
    refine z_goto (tgt := 37) S dX10_dearest_62 (by decide) ?_
    refine z_lv (ks := [0, 1, 2]) rfl ?_
    exact hc _ (Option.some.inj he).symm
set_option maxRecDepth 100000 in
set_option maxHeartbeats 4000000 in
theorem p_X10_dearest_J80_107 {X : Cx} {p : Program} {l : Launch} {e : Env} {s : State} {m : MethodId} {args : Array Value} {below : List Frame} {meth : Method} {c : Code} (S : SB X 1 p s m args meth c cX10_dearest 5 (some .int) RX10) {M : Mm} {N : Mm} {r : Int32} {v1 : Int32} {v2 : Int32} {v3 : Int32} {v4 : Int32} {x : (Mm × Int32 × Int32) ⊕ ((Int32 × Mm) ⊕ Mm)}  (he : f_X10_dearest_J80_107 M v1 v2 v3 v4 = some x) (hc : ∀ b, x = .inl b → Z X 1 p l e rm_X10_dearest s m args below meth c 0 0 (MQ below (QI X 1 r N s.heap.size) args s 0 0 (AA X 1 s.heap.size)) 5 b.1 80 [(0, .ref (X.2.2 109)), (1, .int v1), (2, .int b.2.1), (3, .int b.2.2)] []) (hx : ∀ b, x = .inr (.inr b) → Z X 1 p l e rm_X10_dearest s m args below meth c 0 0 (MQ below (QI X 1 r N s.heap.size) args s 0 0 (AA X 1 s.heap.size)) 5 b 156 [] []) (hr : ∀ v, x = .inr (.inl v) → v = (r, N)) : Z X 1 p l e rm_X10_dearest s m args below meth c 0 0 (MQ below (QI X 1 r N s.heap.size) args s 0 0 (AA X 1 s.heap.size)) 5 M 107 [(0, .ref (X.2.2 109)), (1, .int v1), (2, .int v2), (3, .int v3), (4, .int v4)] [] := by
  unfold f_X10_dearest_J80_107 at he
  refine z_iload_n S dX10_dearest_107 rfl 3 rfl ?_
  refine z_iload_n S dX10_dearest_108 rfl 1 rfl ?_
  refine z_icmp_ne (tgt := 115) S he dX10_dearest_109 (by decide) (fun he => ?_) (fun he => ?_)
  · refine z_iload S dX10_dearest_115 4 rfl ?_
    refine z_iconst (v := (-1)) S dX10_dearest_117 (by decide) ?_
    refine z_icmp_ne (tgt := 124) S he dX10_dearest_118 (by decide) (fun he => ?_) (fun he => ?_)
    · refine z_iload_n S dX10_dearest_124 rfl 2 rfl ?_
      refine z_aload_n S dX10_dearest_125 rfl 0 rfl ?_
      refine z_getF (j := 116) S fo_RX10_32 7 rfl rfl ok_109 dX10_dearest_126 ?_
      refine z_bipush (v := 10) S dX10_dearest_129 (by decide) ?_
      refine z_iload S dX10_dearest_131 4 rfl ?_
      refine z_imul S dX10_dearest_133 ?_
      refine z_iload_n S dX10_dearest_134 rfl 3 rfl ?_
      refine z_iadd S dX10_dearest_135 ?_
      refine z_iald S ok_116 rfl he dX10_dearest_136 (fun he => ?_)
      refine z_isub S dX10_dearest_137 ?_
      obtain ⟨x10, ex10, he⟩ := bnd he
      rw [Option.some.inj ex10]
      refine z_istore_n (lv' := [(0, .ref (X.2.2 109)), (1, .int v1), (2, .int x10), (3, .int v3), (4, .int v4)]) S [1, 2, 0, 3, 4] dX10_dearest_138 rfl (by decide) rfl ?_
      refine z_aload_n S dX10_dearest_139 rfl 0 rfl ?_
      refine z_getF (j := 122) S fo_RX10_50 13 rfl rfl ok_109 dX10_dearest_140 ?_
      refine z_iload S dX10_dearest_143 4 rfl ?_
      refine z_dup2 S dX10_dearest_145 rfl rfl ?_
      refine z_iald S ok_122 rfl he dX10_dearest_146 (fun he => ?_)
      refine z_iconst (v := 1) S dX10_dearest_147 (by decide) ?_
      refine z_isub S dX10_dearest_148 ?_
      refine z_iastb S ok_122 rfl he dX10_dearest_149 (fun M11 he => ?_)
      refine z_iinc (v := (v3 + 1)) (lv' := [(0, .ref (X.2.2 109)), (1, .int v1), (2, .int x10), (3, .int (v3 + 1)), (4, .int v4)]) S [1, 2, 3, 0, 4] 3 dX10_dearest_150 rfl (by rfl) (by decide) rfl ?_
      refine z_goto (tgt := 80) S dX10_dearest_153 (by decide) ?_
      refine z_lv (ks := [0, 1, 2, 3]) rfl ?_
      exact hc _ (Option.some.inj he).symm
    · refine z_goto (tgt := 150) S dX10_dearest_121 (by decide) ?_
      refine z_iinc (v := (v3 + 1)) (lv' := [(0, .ref (X.2.2 109)), (1, .int v1), (2, .int v2), (3, .int (v3 + 1)), (4, .int v4)]) S [1, 2, 3, 0, 4] 3 dX10_dearest_150 rfl (by rfl) (by decide) rfl ?_
      refine z_goto (tgt := 80) S dX10_dearest_153 (by decide) ?_
      refine z_lv (ks := [0, 1, 2, 3]) rfl ?_
      exact hc _ (Option.some.inj he).symm
  · refine z_iload S dX10_dearest_112 4 rfl ?_
    exact z_iret S (Prod.mk.inj (hr _ (Option.some.inj he).symm)) dX10_dearest_114
set_option maxRecDepth 100000 in
set_option maxHeartbeats 4000000 in
theorem p_X10_dearest_L80 {X : Cx} {p : Program} {l : Launch} {e : Env} {s : State} {m : MethodId} {args : Array Value} {below : List Frame} {meth : Method} {c : Code} (S : SB X 1 p s m args meth c cX10_dearest 5 (some .int) RX10) {M : Mm} {N : Mm} {r : Int32} {v1 : Int32} {v2 : Int32} {v3 : Int32} {x : (Mm × Int32 × Int32) ⊕ ((Int32 × Mm) ⊕ Mm)}  (he : f_X10_dearest_L80 M v1 v2 v3 = some x) (hc : ∀ b, x = .inl b → Z X 1 p l e rm_X10_dearest s m args below meth c 0 0 (MQ below (QI X 1 r N s.heap.size) args s 0 0 (AA X 1 s.heap.size)) 5 b.1 80 [(0, .ref (X.2.2 109)), (1, .int v1), (2, .int b.2.1), (3, .int b.2.2)] []) (hx : ∀ b, x = .inr (.inr b) → Z X 1 p l e rm_X10_dearest s m args below meth c 0 0 (MQ below (QI X 1 r N s.heap.size) args s 0 0 (AA X 1 s.heap.size)) 5 b 156 [] []) (hr : ∀ v, x = .inr (.inl v) → v = (r, N)) : Z X 1 p l e rm_X10_dearest s m args below meth c 0 0 (MQ below (QI X 1 r N s.heap.size) args s 0 0 (AA X 1 s.heap.size)) 5 M 80 [(0, .ref (X.2.2 109)), (1, .int v1), (2, .int v2), (3, .int v3)] [] := by
  unfold f_X10_dearest_L80 at he
  refine z_iload_n S dX10_dearest_80 rfl 3 rfl ?_
  refine z_iload_n S dX10_dearest_81 rfl 1 rfl ?_
  refine z_icmp_gt (tgt := 156) S he dX10_dearest_82 (by decide) (fun he => ?_) (fun he => ?_)
  · refine z_lv (ks := []) rfl ?_
    exact hx _ (Option.some.inj he).symm
  · refine z_iconst (v := (-1)) S dX10_dearest_85 (by decide) ?_
    refine z_istore (lv' := [(0, .ref (X.2.2 109)), (1, .int v1), (2, .int v2), (3, .int v3), (4, .int (-1))]) S [1, 2, 3, 4, 0] dX10_dearest_86 (by decide) rfl ?_
    refine z_aload_n S dX10_dearest_88 rfl 0 rfl ?_
    refine z_iload_n S dX10_dearest_89 rfl 3 rfl ?_
    refine z_iconst (v := 1) S dX10_dearest_90 (by decide) ?_
    refine z_iadd S dX10_dearest_91 ?_
    obtain ⟨⟨r8, M9⟩, h9, he⟩ := bnd he
    dsimp only at he
    refine z_cVI (As := [.int (v3 + 1)]) S cv_RX10_331 (K_X10_dearestFrom  h9) ok_109 (by decide) (q := (RX10, TX10, 28)) rfl rfl ⟨rfl, rfl⟩ ⟨Nat.le_of_ble_eq_true rfl, Nat.le_of_ble_eq_true rfl⟩ ⟨Nat.le_refl _, Nat.le_refl _⟩ rfl rfl (Nat.le_of_ble_eq_true rfl) dX10_dearest_92 ?_
    refine z_iload_n S dX10_dearest_95 rfl 2 rfl ?_
    refine z_icmp_eq (tgt := 107) S he dX10_dearest_96 (by decide) (fun he => ?_) (fun he => ?_)
    · exact p_X10_dearest_J80_107 S  he hc hx hr
    · refine z_aload_n S dX10_dearest_99 rfl 0 rfl ?_
      refine z_iload_n S dX10_dearest_100 rfl 3 rfl ?_
      refine z_iload_n S dX10_dearest_101 rfl 2 rfl ?_
      obtain ⟨⟨r12, M13⟩, h9, he⟩ := bnd he
      dsimp only at he
      refine z_cVI (As := [.int v3, .int v2]) S cv_RX10_334 (K_X10_firstFor  h9) ok_109 (by decide) (q := (RX10, TX10, 28)) rfl rfl ⟨rfl, rfl⟩ ⟨Nat.le_of_ble_eq_true rfl, Nat.le_of_ble_eq_true rfl⟩ ⟨Nat.le_refl _, Nat.le_refl _⟩ rfl rfl (Nat.le_of_ble_eq_true rfl) dX10_dearest_102 ?_
      refine z_istore (lv' := [(0, .ref (X.2.2 109)), (1, .int v1), (2, .int v2), (3, .int v3), (4, .int r12)]) S [1, 2, 3, 4, 0] dX10_dearest_105 (by decide) rfl ?_
      exact p_X10_dearest_J80_107 S  he hc hx hr
set_option maxRecDepth 100000 in
set_option maxHeartbeats 4000000 in
theorem p_X10_dearest_J19 {X : Cx} {p : Program} {l : Launch} {e : Env} {s : State} {m : MethodId} {args : Array Value} {below : List Frame} {meth : Method} {c : Code} (S : SB X 1 p s m args meth c cX10_dearest 5 (some .int) RX10) {M : Mm} {N : Mm} {r : Int32} {v1 : Int32} {t0 : Int32}  (he : f_X10_dearest_J19 M v1 t0 = some (r, N)) : Z X 1 p l e rm_X10_dearest s m args below meth c 0 0 (MQ below (QI X 1 r N s.heap.size) args s 0 0 (AA X 1 s.heap.size)) 5 M 19 [(0, .ref (X.2.2 109)), (1, .int v1)] [.int t0, .ref (X.2.2 109)] := by
  unfold f_X10_dearest_J19 at he
  refine z_putIb S fo_RX10_63p rfl ok_109 rfl rfl he dX10_dearest_19 (fun M1 he => ?_)
  refine z_aload_n S dX10_dearest_22 rfl 0 rfl ?_
  refine z_getI S fo_RX10_63 rfl ok_109 dX10_dearest_23 ?_
  refine z_if_le (tgt := 31) S he dX10_dearest_26 (by decide) (fun he => ?_) (fun he => ?_)
  · refine z_aload_n S dX10_dearest_31 rfl 0 rfl ?_
    obtain ⟨M2, h9, he⟩ := bnd he
    refine z_cVV (As := []) S cv_RX10_318 (K_X10_looks  h9) ok_109 (by decide) (q := (RX10, TX10, 28)) rfl rfl ⟨rfl, rfl⟩ ⟨Nat.le_of_ble_eq_true rfl, Nat.le_of_ble_eq_true rfl⟩ ⟨Nat.le_refl _, Nat.le_refl _⟩ rfl rfl (Nat.le_of_ble_eq_true rfl) dX10_dearest_32 ?_
    refine z_iconst (v := 0) S dX10_dearest_35 (by decide) ?_
    refine z_istore_n (lv' := [(0, .ref (X.2.2 109)), (1, .int v1), (2, .int 0)]) S [1, 2, 0] dX10_dearest_36 rfl (by decide) rfl ?_
    obtain ⟨e_5, hl, he⟩ := bnd he
    have hX : Z X 1 p l e rm_X10_dearest s m args below meth c 0 0 (MQ below (QI X 1 r N s.heap.size) args s 0 0 (AA X 1 s.heap.size)) 5 e_5 65 [(0, .ref (X.2.2 109)), (1, .int v1)] [] := by
      refine z_aload_n S dX10_dearest_65 rfl 0 rfl ?_
      refine z_iconst (v := 0) S dX10_dearest_66 (by decide) ?_
      obtain ⟨⟨r6, M7⟩, h9, he⟩ := bnd he
      dsimp only at he
      refine z_cVI (As := [.int 0]) S cv_RX10_331 (K_X10_dearestFrom  h9) ok_109 (by decide) (q := (RX10, TX10, 28)) rfl rfl ⟨rfl, rfl⟩ ⟨Nat.le_of_ble_eq_true rfl, Nat.le_of_ble_eq_true rfl⟩ ⟨Nat.le_refl _, Nat.le_refl _⟩ rfl rfl (Nat.le_of_ble_eq_true rfl) dX10_dearest_67 ?_
      refine z_istore_n (lv' := [(0, .ref (X.2.2 109)), (1, .int v1), (2, .int r6)]) S [1, 2, 0] dX10_dearest_70 rfl (by decide) rfl ?_
      refine z_iload_n S dX10_dearest_71 rfl 1 rfl ?_
      refine z_iconst (v := (-1)) S dX10_dearest_72 (by decide) ?_
      refine z_icmp_ne (tgt := 78) S he dX10_dearest_73 (by decide) (fun he => ?_) (fun he => ?_)
      · refine z_iconst (v := 0) S dX10_dearest_78 (by decide) ?_
        refine z_istore_n (lv' := [(0, .ref (X.2.2 109)), (1, .int v1), (2, .int r6), (3, .int 0)]) S [1, 2, 3, 0] dX10_dearest_79 rfl (by decide) rfl ?_
        obtain ⟨r9, hl, hr1, hr2⟩ := bndS he
        have hX : ∀ e_14, r9 = .inr e_14 → Z X 1 p l e rm_X10_dearest s m args below meth c 0 0 (MQ below (QI X 1 r N s.heap.size) args s 0 0 (AA X 1 s.heap.size)) 5 e_14 156 [] [] := by
          intro e_14 hre
          have he := hr2 e_14 hre
          refine z_iconst (v := (-1)) S dX10_dearest_156 (by decide) ?_
          exact z_iret S (Prod.mk.inj (Option.some.inj he)) dX10_dearest_157
        have hZ9 := loopZ (f := (fun a_14 => f_X10_dearest_L80 a_14.1 v1 a_14.2.1 a_14.2.2)) (Zh := (fun a_14 => Z X 1 p l e rm_X10_dearest s m args below meth c 0 0 (MQ below (QI X 1 r N s.heap.size) args s 0 0 (AA X 1 s.heap.size)) 5 a_14.1 80 [(0, .ref (X.2.2 109)), (1, .int v1), (2, .int a_14.2.1), (3, .int a_14.2.2)] [])) (fun a_14 x hb hc hr9 => p_X10_dearest_L80 S  hb hc (fun b hxe => hX b (hr9 _ hxe).symm) (fun v hxv => Option.some.inj (hr1 v (hr9 _ hxv).symm))) FU (M7, r6, 0) hl
        exact hZ9
      · refine z_iload_n S dX10_dearest_76 rfl 2 rfl ?_
        exact z_iret S (Prod.mk.inj (Option.some.inj he)) dX10_dearest_77
    have hZ9 := loopZ (f := (fun a_5 => f_X10_dearest_L37 a_5.1 v1 a_5.2)) (Zh := (fun a_5 => Z X 1 p l e rm_X10_dearest s m args below meth c 0 0 (MQ below (QI X 1 r N s.heap.size) args s 0 0 (AA X 1 s.heap.size)) 5 a_5.1 37 [(0, .ref (X.2.2 109)), (1, .int v1), (2, .int a_5.2)] [])) (fun a_5 x hb hc hr => p_X10_dearest_L37 S  hb hc (fun b hxe => by rw [hr b hxe]; exact hX)) FU (M2, 0) hl
    exact hZ9
  · refine z_iconst (v := 0) S dX10_dearest_29 (by decide) ?_
    exact z_iret S (Prod.mk.inj (Option.some.inj he)) dX10_dearest_30
set_option maxRecDepth 100000 in
set_option maxHeartbeats 4000000 in
theorem p_X10_dearest_J18 {X : Cx} {p : Program} {l : Launch} {e : Env} {s : State} {m : MethodId} {args : Array Value} {below : List Frame} {meth : Method} {c : Code} (S : SB X 1 p s m args meth c cX10_dearest 5 (some .int) RX10) {M : Mm} {N : Mm} {r : Int32} {v1 : Int32}  (he : f_X10_dearest_J18 M v1 = some (r, N)) : Z X 1 p l e rm_X10_dearest s m args below meth c 0 0 (MQ below (QI X 1 r N s.heap.size) args s 0 0 (AA X 1 s.heap.size)) 5 M 18 [(0, .ref (X.2.2 109)), (1, .int v1)] [.ref (X.2.2 109)] := by
  unfold f_X10_dearest_J18 at he
  refine z_iconst (v := 0) S dX10_dearest_18 (by decide) ?_
  exact p_X10_dearest_J19 S  he
set_option maxRecDepth 100000 in
set_option maxHeartbeats 4000000 in
theorem K_X10_dearest {X : Cx} {l : Launch} {M : Mm} {a1 : Int32} {r : Int32} {N : Mm}  (he : f_X10_dearest M a1 = some (r, N)) : KI X 1 l yX10_dearest (wz yX10_dearest cX10_dearest 5 (some .int)) rm_X10_dearest [.ref (X.2.2 109), .int a1] M r N := by
  intro sz
  refine K_of (Qc := (fun sz => QI X 1 r N sz)) (own := RX10) (lv0 := [(0, .ref (X.2.2 109)), (1, .int a1)]) (by decide +kernel) rfl (Nat.le_of_ble_eq_true rfl) rfl (fun p e s m args below meth c S => ?_) sz
  · unfold f_X10_dearest at he
    refine z_aload_n S dX10_dearest_0 rfl 0 rfl ?_
    refine z_iload_n S dX10_dearest_1 rfl 1 rfl ?_
    refine z_iconst (v := (-1)) S dX10_dearest_2 (by decide) ?_
    refine z_icmp_eq (tgt := 18) S he dX10_dearest_3 (by decide) (fun he => ?_) (fun he => ?_)
    · exact p_X10_dearest_J18 S  he
    · refine z_aload_n S dX10_dearest_6 rfl 0 rfl ?_
      refine z_iload_n S dX10_dearest_7 rfl 1 rfl ?_
      obtain ⟨r15, h9, he⟩ := bnd he
      refine z_cVI (As := [.int a1]) S cv_RX10_300 (K_X10_isVisitor  h9) ok_109 (by decide) (q := (RX10, TX10, 28)) rfl rfl ⟨rfl, rfl⟩ ⟨Nat.le_of_ble_eq_true rfl, Nat.le_of_ble_eq_true rfl⟩ ⟨Nat.le_refl _, Nat.le_refl _⟩ rfl rfl (Nat.le_of_ble_eq_true rfl) dX10_dearest_8 ?_
      refine z_ifb_ne (tgt := 18) S he dX10_dearest_11 (by decide) (fun he => ?_) (fun he => ?_)
      · exact p_X10_dearest_J18 S  he
      · refine z_iconst (v := 1) S dX10_dearest_14 (by decide) ?_
        refine z_goto (tgt := 19) S dX10_dearest_15 (by decide) ?_
        exact p_X10_dearest_J19 S  he
set_option maxRecDepth 100000 in
set_option maxHeartbeats 4000000 in
theorem K_X10_end {X : Cx} {l : Launch} {M : Mm} {a1 : Int32} {r : Bool} {N : Mm}  (he : f_X10_end M a1 = some (r, N)) : KI X 1 l yX10_end (wz yX10_end cX10_end 2 (some .boolean)) rm_X10_end [.ref (X.2.2 109), .int a1] M (bI r) N := by
  intro sz
  refine K_of (Qc := (fun sz => QI X 1 (bI r) N sz)) (own := RX10) (lv0 := [(0, .ref (X.2.2 109)), (1, .int a1)]) (by decide +kernel) rfl (Nat.le_of_ble_eq_true rfl) rfl (fun p e s m args below meth c S => ?_) sz
  · unfold f_X10_end at he
    refine z_aload_n S dX10_end_0 rfl 0 rfl ?_
    refine z_iconst (v := 0) S dX10_end_1 (by decide) ?_
    refine z_putIb S fo_RX10_63p rfl ok_109 rfl rfl he dX10_end_2 (fun M1 he => ?_)
    refine z_iload_n S dX10_end_5 rfl 1 rfl ?_
    refine z_iconst (v := 0) S dX10_end_6 (by decide) ?_
    refine z_aload_n S dX10_end_7 rfl 0 rfl ?_
    refine z_getI S fo_RX10_74 rfl ok_109 dX10_end_8 ?_
    refine z_cSI (As := [.int a1, .int 0, .int (gI M1 109 8)]) S cs_RX10_66 (K_X10_isIn  rfl) ⟨rfl, rfl⟩ ⟨Nat.le_of_ble_eq_true rfl, Nat.le_of_ble_eq_true rfl⟩ ⟨Nat.le_refl _, Nat.le_refl _⟩ rfl rfl (Nat.le_of_ble_eq_true rfl) dX10_end_11 ?_
    refine z_ifb_ne (tgt := 19) S he dX10_end_14 (by decide) (fun he => ?_) (fun he => ?_)
    · refine z_aload_n S dX10_end_19 rfl 0 rfl ?_
      refine z_iload_n S dX10_end_20 rfl 1 rfl ?_
      refine z_putIb S fo_RX10_74p rfl ok_109 rfl rfl he dX10_end_21 (fun M2 he => ?_)
      refine z_iconst (v := 1) S dX10_end_24 (by decide) ?_
      exact z_zret1 S (Prod.mk.inj (Option.some.inj he)) dX10_end_25
    · refine z_iconst (v := 0) S dX10_end_17 (by decide) ?_
      exact z_zret0 S (Prod.mk.inj (Option.some.inj he)) dX10_end_18
set_option maxRecDepth 100000 in
set_option maxHeartbeats 4000000 in
theorem p_X10_envy_L4 {X : Cx} {p : Program} {l : Launch} {e : Env} {s : State} {m : MethodId} {args : Array Value} {below : List Frame} {meth : Method} {c : Code} (S : SB X 1 p s m args meth c cX10_envy 5 (some .int) RX10) {M : Mm} {r : Int32} {v1 : Int32} {v2 : Int32} {v3 : Int32} {x : (Int32 × Int32) ⊕ Int32}  (he : f_X10_envy_L4 M v1 v2 v3 = some x) (hc : ∀ b, x = .inl b → Z X 1 p l e rm_X10_envy s m args below meth c 0 0 (MQ below (QI X 1 r M s.heap.size) args s 0 0 (AA X 1 s.heap.size)) 5 M 4 [(0, .ref (X.2.2 109)), (1, .int v1), (2, .int b.1), (3, .int b.2)] []) (hx : ∀ b, x = .inr b → Z X 1 p l e rm_X10_envy s m args below meth c 0 0 (MQ below (QI X 1 r M s.heap.size) args s 0 0 (AA X 1 s.heap.size)) 5 M 46 [(0, .ref (X.2.2 109)), (1, .int v1), (2, .int b)] []) : Z X 1 p l e rm_X10_envy s m args below meth c 0 0 (MQ below (QI X 1 r M s.heap.size) args s 0 0 (AA X 1 s.heap.size)) 5 M 4 [(0, .ref (X.2.2 109)), (1, .int v1), (2, .int v2), (3, .int v3)] [] := by
  unfold f_X10_envy_L4 at he
  refine z_iload_n S dX10_envy_4 rfl 3 rfl ?_
  refine z_aload_n S dX10_envy_5 rfl 0 rfl ?_
  refine z_getF (j := 110) S fo_RX10_7 1 rfl rfl ok_109 dX10_envy_6 ?_
  refine z_iconst (v := 4) S dX10_envy_9 (by decide) ?_
  refine z_iald S ok_110 rfl he dX10_envy_10 (fun he => ?_)
  refine z_icmp_ge (tgt := 46) S he dX10_envy_11 (by decide) (fun he => ?_) (fun he => ?_)
  · refine z_lv (ks := [0, 1, 2]) rfl ?_
    exact hx _ (Option.some.inj he).symm
  · refine z_aload_n S dX10_envy_14 rfl 0 rfl ?_
    refine z_getF (j := 117) S fo_RX10_35 8 rfl rfl ok_109 dX10_envy_15 ?_
    refine z_iload_n S dX10_envy_18 rfl 3 rfl ?_
    refine z_iald S ok_117 rfl he dX10_envy_19 (fun he => ?_)
    refine z_iload_n S dX10_envy_20 rfl 1 rfl ?_
    refine z_icmp_ne (tgt := 40) S he dX10_envy_21 (by decide) (fun he => ?_) (fun he => ?_)
    · refine z_iinc (v := (v3 + 1)) (lv' := [(0, .ref (X.2.2 109)), (1, .int v1), (2, .int v2), (3, .int (v3 + 1))]) S [1, 2, 3, 0] 3 dX10_envy_40 rfl (by rfl) (by decide) rfl ?_
      refine z_goto (tgt := 4) S dX10_envy_43 (by decide) ?_
      refine z_lv (ks := [0, 1, 2, 3]) rfl ?_
      exact hc _ (Option.some.inj he).symm
    · refine z_iload_n S dX10_envy_24 rfl 2 rfl ?_
      refine z_aload_n S dX10_envy_25 rfl 0 rfl ?_
      refine z_getF (j := 116) S fo_RX10_32 7 rfl rfl ok_109 dX10_envy_26 ?_
      refine z_bipush (v := 10) S dX10_envy_29 (by decide) ?_
      refine z_iload_n S dX10_envy_31 rfl 1 rfl ?_
      refine z_imul S dX10_envy_32 ?_
      refine z_iload_n S dX10_envy_33 rfl 3 rfl ?_
      refine z_iadd S dX10_envy_34 ?_
      refine z_iald S ok_116 rfl he dX10_envy_35 (fun he => ?_)
      refine z_cSI (As := [.int v2, .int (gA M 116 ((10 * v1) + v3))]) S cs_RX10_249 (K_X10_greater  rfl) ⟨rfl, rfl⟩ ⟨Nat.le_of_ble_eq_true rfl, Nat.le_of_ble_eq_true rfl⟩ ⟨Nat.le_refl _, Nat.le_refl _⟩ rfl rfl (Nat.le_of_ble_eq_true rfl) dX10_envy_36 ?_
      obtain ⟨x1, ex1, he⟩ := bnd he
      rw [Option.some.inj ex1]
      refine z_istore_n (lv' := [(0, .ref (X.2.2 109)), (1, .int v1), (2, .int x1), (3, .int v3)]) S [1, 2, 0, 3] dX10_envy_39 rfl (by decide) rfl ?_
      refine z_iinc (v := (v3 + 1)) (lv' := [(0, .ref (X.2.2 109)), (1, .int v1), (2, .int x1), (3, .int (v3 + 1))]) S [1, 2, 3, 0] 3 dX10_envy_40 rfl (by rfl) (by decide) rfl ?_
      refine z_goto (tgt := 4) S dX10_envy_43 (by decide) ?_
      refine z_lv (ks := [0, 1, 2, 3]) rfl ?_
      exact hc _ (Option.some.inj he).symm
set_option maxRecDepth 100000 in
set_option maxHeartbeats 4000000 in
theorem p_X10_envy_J51_118 {X : Cx} {p : Program} {l : Launch} {e : Env} {s : State} {m : MethodId} {args : Array Value} {below : List Frame} {meth : Method} {c : Code} (S : SB X 1 p s m args meth c cX10_envy 5 (some .int) RX10) {M : Mm} {r : Int32} {v1 : Int32} {v2 : Int32} {v4 : Int32} {t0 : Int32} {x : (Int32 × Int32) ⊕ Int32}  (he : f_X10_envy_J51_118 M v1 v2 v4 t0 = some x) (hc : ∀ b, x = .inl b → Z X 1 p l e rm_X10_envy s m args below meth c 0 0 (MQ below (QI X 1 r M s.heap.size) args s 0 0 (AA X 1 s.heap.size)) 5 M 51 [(0, .ref (X.2.2 109)), (1, .int v1), (2, .int v2), (3, .int b.1), (4, .int b.2)] []) (hx : ∀ b, x = .inr b → Z X 1 p l e rm_X10_envy s m args below meth c 0 0 (MQ below (QI X 1 r M s.heap.size) args s 0 0 (AA X 1 s.heap.size)) 5 M 127 [(3, .int b)] []) : Z X 1 p l e rm_X10_envy s m args below meth c 0 0 (MQ below (QI X 1 r M s.heap.size) args s 0 0 (AA X 1 s.heap.size)) 5 M 118 [(0, .ref (X.2.2 109)), (1, .int v1), (2, .int v2), (4, .int v4)] [.int t0] := by
  unfold f_X10_envy_J51_118 at he
  refine z_iconst (v := 0) S dX10_envy_118 (by decide) ?_
  refine z_ior S dX10_envy_119 ?_
  refine z_istore_n (lv' := [(0, .ref (X.2.2 109)), (1, .int v1), (2, .int v2), (3, .int (t0 ||| 0)), (4, .int v4)]) S [1, 2, 3, 0, 4] dX10_envy_120 rfl (by decide) rfl ?_
  refine z_iinc (v := (v4 + 1)) (lv' := [(0, .ref (X.2.2 109)), (1, .int v1), (2, .int v2), (3, .int (t0 ||| 0)), (4, .int (v4 + 1))]) S [1, 2, 3, 4, 0] 4 dX10_envy_121 rfl (by rfl) (by decide) rfl ?_
  refine z_goto (tgt := 51) S dX10_envy_124 (by decide) ?_
  refine z_lv (ks := [0, 1, 2, 3, 4]) rfl ?_
  exact hc _ (Option.some.inj he).symm
set_option maxRecDepth 100000 in
set_option maxHeartbeats 4000000 in
theorem p_X10_envy_L51 {X : Cx} {p : Program} {l : Launch} {e : Env} {s : State} {m : MethodId} {args : Array Value} {below : List Frame} {meth : Method} {c : Code} (S : SB X 1 p s m args meth c cX10_envy 5 (some .int) RX10) {M : Mm} {r : Int32} {v1 : Int32} {v2 : Int32} {v3 : Int32} {v4 : Int32} {x : (Int32 × Int32) ⊕ Int32}  (he : f_X10_envy_L51 M v1 v2 v3 v4 = some x) (hc : ∀ b, x = .inl b → Z X 1 p l e rm_X10_envy s m args below meth c 0 0 (MQ below (QI X 1 r M s.heap.size) args s 0 0 (AA X 1 s.heap.size)) 5 M 51 [(0, .ref (X.2.2 109)), (1, .int v1), (2, .int v2), (3, .int b.1), (4, .int b.2)] []) (hx : ∀ b, x = .inr b → Z X 1 p l e rm_X10_envy s m args below meth c 0 0 (MQ below (QI X 1 r M s.heap.size) args s 0 0 (AA X 1 s.heap.size)) 5 M 127 [(3, .int b)] []) : Z X 1 p l e rm_X10_envy s m args below meth c 0 0 (MQ below (QI X 1 r M s.heap.size) args s 0 0 (AA X 1 s.heap.size)) 5 M 51 [(0, .ref (X.2.2 109)), (1, .int v1), (2, .int v2), (3, .int v3), (4, .int v4)] [] := by
  unfold f_X10_envy_L51 at he
  refine z_iload S dX10_envy_51 4 rfl ?_
  refine z_aload_n S dX10_envy_53 rfl 0 rfl ?_
  refine z_getF (j := 110) S fo_RX10_7 1 rfl rfl ok_109 dX10_envy_54 ?_
  refine z_iconst (v := 4) S dX10_envy_57 (by decide) ?_
  refine z_iald S ok_110 rfl he dX10_envy_58 (fun he => ?_)
  refine z_icmp_ge (tgt := 127) S he dX10_envy_59 (by decide) (fun he => ?_) (fun he => ?_)
  · refine z_lv (ks := [3]) rfl ?_
    exact hx _ (Option.some.inj he).symm
  · refine z_iload_n S dX10_envy_62 rfl 3 rfl ?_
    refine z_aload_n S dX10_envy_63 rfl 0 rfl ?_
    refine z_getF (j := 117) S fo_RX10_35 8 rfl rfl ok_109 dX10_envy_64 ?_
    refine z_iload S dX10_envy_67 4 rfl ?_
    refine z_iald S ok_117 rfl he dX10_envy_69 (fun he => ?_)
    refine z_iconst (v := (-1)) S dX10_envy_70 (by decide) ?_
    refine z_icmp_eq (tgt := 118) S he dX10_envy_71 (by decide) (fun he => ?_) (fun he => ?_)
    · refine z_lv (ks := [0, 1, 2, 4]) rfl ?_
      exact p_X10_envy_J51_118 S  he hc hx
    · refine z_aload_n S dX10_envy_74 rfl 0 rfl ?_
      refine z_getF (j := 117) S fo_RX10_35 8 rfl rfl ok_109 dX10_envy_75 ?_
      refine z_iload S dX10_envy_78 4 rfl ?_
      refine z_iald S ok_117 rfl he dX10_envy_80 (fun he => ?_)
      refine z_iload_n S dX10_envy_81 rfl 1 rfl ?_
      refine z_icmp_eq (tgt := 118) S he dX10_envy_82 (by decide) (fun he => ?_) (fun he => ?_)
      · refine z_lv (ks := [0, 1, 2, 4]) rfl ?_
        exact p_X10_envy_J51_118 S  he hc hx
      · refine z_aload_n S dX10_envy_85 rfl 0 rfl ?_
        refine z_iload_n S dX10_envy_86 rfl 1 rfl ?_
        refine z_iload S dX10_envy_87 4 rfl ?_
        obtain ⟨r3, h9, he⟩ := bnd he
        refine z_cVI (As := [.int v1, .int v4]) S cv_RX10_259 (K_X10_canHave  h9) ok_109 (by decide) (q := (RX10, TX10, 28)) rfl rfl ⟨rfl, rfl⟩ ⟨Nat.le_of_ble_eq_true rfl, Nat.le_of_ble_eq_true rfl⟩ ⟨Nat.le_refl _, Nat.le_refl _⟩ rfl rfl (Nat.le_of_ble_eq_true rfl) dX10_envy_89 ?_
        refine z_ifb_eq (tgt := 118) S he dX10_envy_92 (by decide) (fun he => ?_) (fun he => ?_)
        · refine z_lv (ks := [0, 1, 2, 4]) rfl ?_
          exact p_X10_envy_J51_118 S  he hc hx
        · refine z_aload_n S dX10_envy_95 rfl 0 rfl ?_
          refine z_getF (j := 116) S fo_RX10_32 7 rfl rfl ok_109 dX10_envy_96 ?_
          refine z_bipush (v := 10) S dX10_envy_99 (by decide) ?_
          refine z_iload_n S dX10_envy_101 rfl 1 rfl ?_
          refine z_imul S dX10_envy_102 ?_
          refine z_iload S dX10_envy_103 4 rfl ?_
          refine z_iadd S dX10_envy_105 ?_
          refine z_iald S ok_116 rfl he dX10_envy_106 (fun he => ?_)
          refine z_iload_n S dX10_envy_107 rfl 2 rfl ?_
          refine z_icmp_le (tgt := 118) S he dX10_envy_108 (by decide) (fun he => ?_) (fun he => ?_)
          · refine z_lv (ks := [0, 1, 2, 4]) rfl ?_
            exact p_X10_envy_J51_118 S  he hc hx
          · refine z_iconst (v := 1) S dX10_envy_111 (by decide) ?_
            refine z_iload S dX10_envy_112 4 rfl ?_
            refine z_ishl S dX10_envy_114 ?_
            refine z_goto (tgt := 119) S dX10_envy_115 (by decide) ?_
            refine z_ior S dX10_envy_119 ?_
            obtain ⟨x4, ex4, he⟩ := bnd he
            rw [Option.some.inj ex4]
            refine z_istore_n (lv' := [(0, .ref (X.2.2 109)), (1, .int v1), (2, .int v2), (3, .int x4), (4, .int v4)]) S [1, 2, 3, 0, 4] dX10_envy_120 rfl (by decide) rfl ?_
            refine z_iinc (v := (v4 + 1)) (lv' := [(0, .ref (X.2.2 109)), (1, .int v1), (2, .int v2), (3, .int x4), (4, .int (v4 + 1))]) S [1, 2, 3, 4, 0] 4 dX10_envy_121 rfl (by rfl) (by decide) rfl ?_
            refine z_goto (tgt := 51) S dX10_envy_124 (by decide) ?_
            refine z_lv (ks := [0, 1, 2, 3, 4]) rfl ?_
            exact hc _ (Option.some.inj he).symm
set_option maxRecDepth 100000 in
set_option maxHeartbeats 4000000 in
theorem K_X10_envy {X : Cx} {l : Launch} {M : Mm} {a1 : Int32} {r : Int32}  (he : f_X10_envy M a1 = some r) : KI X 1 l yX10_envy (wz yX10_envy cX10_envy 5 (some .int)) rm_X10_envy [.ref (X.2.2 109), .int a1] M r M := by
  intro sz
  refine K_of (Qc := (fun sz => QI X 1 r M sz)) (own := RX10) (lv0 := [(0, .ref (X.2.2 109)), (1, .int a1)]) (by decide +kernel) rfl (Nat.le_of_ble_eq_true rfl) rfl (fun p e s m args below meth c S => ?_) sz
  · unfold f_X10_envy at he
    refine z_iconst (v := (-1)) S dX10_envy_0 (by decide) ?_
    refine z_istore_n (lv' := [(0, .ref (X.2.2 109)), (1, .int a1), (2, .int (-1))]) S [1, 2, 0] dX10_envy_1 rfl (by decide) rfl ?_
    refine z_iconst (v := 0) S dX10_envy_2 (by decide) ?_
    refine z_istore_n (lv' := [(0, .ref (X.2.2 109)), (1, .int a1), (2, .int (-1)), (3, .int 0)]) S [1, 2, 3, 0] dX10_envy_3 rfl (by decide) rfl ?_
    obtain ⟨e_2, hl, he⟩ := bnd he
    have hX : Z X 1 p l e rm_X10_envy s m args below meth c 0 0 (MQ below (QI X 1 r M s.heap.size) args s 0 0 (AA X 1 s.heap.size)) 5 M 46 [(0, .ref (X.2.2 109)), (1, .int a1), (2, .int e_2)] [] := by
      refine z_iconst (v := 0) S dX10_envy_46 (by decide) ?_
      refine z_istore_n (lv' := [(0, .ref (X.2.2 109)), (1, .int a1), (2, .int e_2), (3, .int 0)]) S [1, 2, 3, 0] dX10_envy_47 rfl (by decide) rfl ?_
      refine z_iconst (v := 0) S dX10_envy_48 (by decide) ?_
      refine z_istore (lv' := [(0, .ref (X.2.2 109)), (1, .int a1), (2, .int e_2), (3, .int 0), (4, .int 0)]) S [1, 2, 3, 4, 0] dX10_envy_49 (by decide) rfl ?_
      obtain ⟨e_5, hl, he⟩ := bnd he
      have hX : Z X 1 p l e rm_X10_envy s m args below meth c 0 0 (MQ below (QI X 1 r M s.heap.size) args s 0 0 (AA X 1 s.heap.size)) 5 M 127 [(3, .int e_5)] [] := by
        refine z_iload_n S dX10_envy_127 rfl 0 rfl ?_
        exact z_iret S (⟨Option.some.inj he, rfl⟩) dX10_envy_128
      have hZ9 := loopZ (f := (fun a_5 => f_X10_envy_L51 M a1 e_2 a_5.1 a_5.2)) (Zh := (fun a_5 => Z X 1 p l e rm_X10_envy s m args below meth c 0 0 (MQ below (QI X 1 r M s.heap.size) args s 0 0 (AA X 1 s.heap.size)) 5 M 51 [(0, .ref (X.2.2 109)), (1, .int a1), (2, .int e_2), (3, .int a_5.1), (4, .int a_5.2)] [])) (fun a_5 x hb hc hr => p_X10_envy_L51 S  hb hc (fun b hxe => by rw [hr b hxe]; exact hX)) FU (0, 0) hl
      exact hZ9
    have hZ9 := loopZ (f := (fun a_2 => f_X10_envy_L4 M a1 a_2.1 a_2.2)) (Zh := (fun a_2 => Z X 1 p l e rm_X10_envy s m args below meth c 0 0 (MQ below (QI X 1 r M s.heap.size) args s 0 0 (AA X 1 s.heap.size)) 5 M 4 [(0, .ref (X.2.2 109)), (1, .int a1), (2, .int a_2.1), (3, .int a_2.2)] [])) (fun a_2 x hb hc hr => p_X10_envy_L4 S  hb hc (fun b hxe => by rw [hr b hxe]; exact hX)) FU ((-1), 0) hl
    exact hZ9
set_option maxRecDepth 100000 in
set_option maxHeartbeats 4000000 in
theorem K_X10_fault {X : Cx} {l : Launch} {M : Mm} {r : Int32} {N : Mm}  (he : f_X10_fault M  = (r, N)) : KI X 1 l yX10_fault (wz yX10_fault cX10_fault 1 (some .int)) rm_X10_fault [.ref (X.2.2 109)] M r N := by
  intro sz
  refine K_of (Qc := (fun sz => QI X 1 r N sz)) (own := RX10) (lv0 := [(0, .ref (X.2.2 109))]) (by decide +kernel) rfl (Nat.le_of_ble_eq_true rfl) rfl (fun p e s m args below meth c S => ?_) sz
  · unfold f_X10_fault at he
    refine z_aload_n S dX10_fault_0 rfl 0 rfl ?_
    refine z_iconst (v := 0) S dX10_fault_1 (by decide) ?_
    refine z_putI S fo_RX10_63p rfl ok_109 rfl rfl dX10_fault_2 ?_
    refine z_aload_n S dX10_fault_5 rfl 0 rfl ?_
    refine z_getI S fo_RX10_25 rfl ok_109 dX10_fault_6 ?_
    exact z_iret S (Prod.mk.inj (he)) dX10_fault_9
set_option maxRecDepth 100000 in
set_option maxHeartbeats 4000000 in
theorem p_X10_feed_J23_76 {X : Cx} {p : Program} {l : Launch} {e : Env} {s : State} {m : MethodId} {args : Array Value} {below : List Frame} {meth : Method} {c : Code} (S : SB X 1 p s m args meth c cX10_feed 8 (some .int) RX10) {M : Mm} {N : Mm} {r : Int32} {v1 : Int32} {v2 : Int32} {v3 : Int32} {v4 : Int32} {v5 : Int32} {v6 : Int32} {t0 : Int32} {x : (Mm × Int32) ⊕ Mm}  (he : f_X10_feed_J23_76 M v1 v2 v3 v4 v5 v6 t0 = some x) (hc : ∀ b, x = .inl b → Z X 1 p l e rm_X10_feed s m args below meth c 0 0 (MQ below (QI X 1 r N s.heap.size) args s 0 0 (AA X 1 s.heap.size)) 8 b.1 23 [(0, .ref (X.2.2 109)), (1, .int v1), (2, .int v2), (3, .int v3), (4, .int v4), (5, .int v5), (6, .int b.2)] []) (hx : ∀ b, x = .inr b → Z X 1 p l e rm_X10_feed s m args below meth c 0 0 (MQ below (QI X 1 r N s.heap.size) args s 0 0 (AA X 1 s.heap.size)) 8 b 120 [(0, .ref (X.2.2 109))] []) : Z X 1 p l e rm_X10_feed s m args below meth c 0 0 (MQ below (QI X 1 r N s.heap.size) args s 0 0 (AA X 1 s.heap.size)) 8 M 76 [(0, .ref (X.2.2 109)), (1, .int v1), (2, .int v2), (3, .int v3), (4, .int v4), (5, .int v5), (6, .int v6)] [.int t0] := by
  unfold f_X10_feed_J23_76 at he
  refine z_istore (lv' := [(0, .ref (X.2.2 109)), (1, .int v1), (2, .int v2), (3, .int v3), (4, .int v4), (5, .int v5), (6, .int v6), (7, .int t0)]) S [1, 2, 3, 4, 5, 6, 7, 0] dX10_feed_76 (by decide) rfl ?_
  refine z_aload_n S dX10_feed_78 rfl 0 rfl ?_
  refine z_getF (j := 114) S fo_RX10_22 5 rfl rfl ok_109 dX10_feed_79 ?_
  refine z_aload_n S dX10_feed_82 rfl 0 rfl ?_
  refine z_getI S fo_RX10_74 rfl ok_109 dX10_feed_83 ?_
  refine z_iload S dX10_feed_86 7 rfl ?_
  refine z_bipush (v := 24) S dX10_feed_88 (by decide) ?_
  refine z_bipush (v := 8) S dX10_feed_90 (by decide) ?_
  refine z_iload S dX10_feed_92 6 rfl ?_
  refine z_iconst (v := 4) S dX10_feed_94 (by decide) ?_
  refine z_irem S (by decide) dX10_feed_95 ?_
  refine z_imul S dX10_feed_96 ?_
  refine z_isub S dX10_feed_97 ?_
  refine z_iushr S dX10_feed_98 ?_
  refine z_sipush (v := 255) S dX10_feed_99 (by decide) ?_
  refine z_iand S dX10_feed_102 ?_
  refine z_iastb S ok_114 rfl he dX10_feed_103 (fun M2 he => ?_)
  refine z_aload_n S dX10_feed_104 rfl 0 rfl ?_
  refine z_dup S rfl dX10_feed_105 ?_
  refine z_getI S fo_RX10_74 rfl ok_109 dX10_feed_106 ?_
  refine z_iconst (v := 1) S dX10_feed_109 (by decide) ?_
  refine z_iadd S dX10_feed_110 ?_
  refine z_putIb S fo_RX10_74p rfl ok_109 rfl rfl he dX10_feed_111 (fun M3 he => ?_)
  refine z_iinc (v := (v6 + 1)) (lv' := [(0, .ref (X.2.2 109)), (1, .int v1), (2, .int v2), (3, .int v3), (4, .int v4), (5, .int v5), (6, .int (v6 + 1)), (7, .int t0)]) S [1, 2, 3, 4, 5, 6, 0, 7] 6 dX10_feed_114 rfl (by rfl) (by decide) rfl ?_
  refine z_goto (tgt := 23) S dX10_feed_117 (by decide) ?_
  refine z_lv (ks := [0, 1, 2, 3, 4, 5, 6]) rfl ?_
  exact hc _ (Option.some.inj he).symm
set_option maxRecDepth 100000 in
set_option maxHeartbeats 4000000 in
theorem p_X10_feed_L23 {X : Cx} {p : Program} {l : Launch} {e : Env} {s : State} {m : MethodId} {args : Array Value} {below : List Frame} {meth : Method} {c : Code} (S : SB X 1 p s m args meth c cX10_feed 8 (some .int) RX10) {M : Mm} {N : Mm} {r : Int32} {v1 : Int32} {v2 : Int32} {v3 : Int32} {v4 : Int32} {v5 : Int32} {v6 : Int32} {x : (Mm × Int32) ⊕ Mm}  (he : f_X10_feed_L23 M v1 v2 v3 v4 v5 v6 = some x) (hc : ∀ b, x = .inl b → Z X 1 p l e rm_X10_feed s m args below meth c 0 0 (MQ below (QI X 1 r N s.heap.size) args s 0 0 (AA X 1 s.heap.size)) 8 b.1 23 [(0, .ref (X.2.2 109)), (1, .int v1), (2, .int v2), (3, .int v3), (4, .int v4), (5, .int v5), (6, .int b.2)] []) (hx : ∀ b, x = .inr b → Z X 1 p l e rm_X10_feed s m args below meth c 0 0 (MQ below (QI X 1 r N s.heap.size) args s 0 0 (AA X 1 s.heap.size)) 8 b 120 [(0, .ref (X.2.2 109))] []) : Z X 1 p l e rm_X10_feed s m args below meth c 0 0 (MQ below (QI X 1 r N s.heap.size) args s 0 0 (AA X 1 s.heap.size)) 8 M 23 [(0, .ref (X.2.2 109)), (1, .int v1), (2, .int v2), (3, .int v3), (4, .int v4), (5, .int v5), (6, .int v6)] [] := by
  unfold f_X10_feed_L23 at he
  refine z_iload S dX10_feed_23 6 rfl ?_
  refine z_bipush (v := 20) S dX10_feed_25 (by decide) ?_
  refine z_icmp_ge (tgt := 120) S he dX10_feed_27 (by decide) (fun he => ?_) (fun he => ?_)
  · refine z_lv (ks := [0]) rfl ?_
    exact hx _ (Option.some.inj he).symm
  · refine z_iload S dX10_feed_30 6 rfl ?_
    refine z_iconst (v := 4) S dX10_feed_32 (by decide) ?_
    refine z_icmp_ge (tgt := 40) S he dX10_feed_33 (by decide) (fun he => ?_) (fun he => ?_)
    · refine z_iload S dX10_feed_40 6 rfl ?_
      refine z_bipush (v := 8) S dX10_feed_42 (by decide) ?_
      refine z_icmp_ge (tgt := 51) S he dX10_feed_44 (by decide) (fun he => ?_) (fun he => ?_)
      · refine z_iload S dX10_feed_51 6 rfl ?_
        refine z_bipush (v := 12) S dX10_feed_53 (by decide) ?_
        refine z_icmp_ge (tgt := 62) S he dX10_feed_55 (by decide) (fun he => ?_) (fun he => ?_)
        · refine z_iload S dX10_feed_62 6 rfl ?_
          refine z_bipush (v := 16) S dX10_feed_64 (by decide) ?_
          refine z_icmp_ge (tgt := 74) S he dX10_feed_66 (by decide) (fun he => ?_) (fun he => ?_)
          · refine z_iload S dX10_feed_74 5 rfl ?_
            exact p_X10_feed_J23_76 S  he hc hx
          · refine z_iload S dX10_feed_69 4 rfl ?_
            refine z_goto (tgt := 76) S dX10_feed_71 (by decide) ?_
            exact p_X10_feed_J23_76 S  he hc hx
        · refine z_iload_n S dX10_feed_58 rfl 3 rfl ?_
          refine z_goto (tgt := 76) S dX10_feed_59 (by decide) ?_
          exact p_X10_feed_J23_76 S  he hc hx
      · refine z_iload_n S dX10_feed_47 rfl 2 rfl ?_
        refine z_goto (tgt := 76) S dX10_feed_48 (by decide) ?_
        exact p_X10_feed_J23_76 S  he hc hx
    · refine z_iload_n S dX10_feed_36 rfl 1 rfl ?_
      refine z_goto (tgt := 76) S dX10_feed_37 (by decide) ?_
      exact p_X10_feed_J23_76 S  he hc hx
set_option maxRecDepth 100000 in
set_option maxHeartbeats 4000000 in
theorem K_X10_feed {X : Cx} {l : Launch} {M : Mm} {a1 : Int32} {a2 : Int32} {a3 : Int32} {a4 : Int32} {a5 : Int32} {r : Int32} {N : Mm}  (he : f_X10_feed M a1 a2 a3 a4 a5 = some (r, N)) : KI X 1 l yX10_feed (wz yX10_feed cX10_feed 8 (some .int)) rm_X10_feed [.ref (X.2.2 109), .int a1, .int a2, .int a3, .int a4, .int a5] M r N := by
  intro sz
  refine K_of (Qc := (fun sz => QI X 1 r N sz)) (own := RX10) (lv0 := [(0, .ref (X.2.2 109)), (1, .int a1), (2, .int a2), (3, .int a3), (4, .int a4), (5, .int a5)]) (by decide +kernel) rfl (Nat.le_of_ble_eq_true rfl) rfl (fun p e s m args below meth c S => ?_) sz
  · unfold f_X10_feed at he
    refine z_aload_n S dX10_feed_0 rfl 0 rfl ?_
    refine z_iconst (v := 0) S dX10_feed_1 (by decide) ?_
    refine z_putIb S fo_RX10_63p rfl ok_109 rfl rfl he dX10_feed_2 (fun M1 he => ?_)
    refine z_aload_n S dX10_feed_5 rfl 0 rfl ?_
    refine z_getI S fo_RX10_74 rfl ok_109 dX10_feed_6 ?_
    refine z_bipush (v := 20) S dX10_feed_9 (by decide) ?_
    refine z_iadd S dX10_feed_11 ?_
    refine z_sipush (v := 400) S dX10_feed_12 (by decide) ?_
    refine z_icmp_le (tgt := 20) S he dX10_feed_15 (by decide) (fun he => ?_) (fun he => ?_)
    · refine z_iconst (v := 0) S dX10_feed_20 (by decide) ?_
      refine z_istore (lv' := [(0, .ref (X.2.2 109)), (1, .int a1), (2, .int a2), (3, .int a3), (4, .int a4), (5, .int a5), (6, .int 0)]) S [1, 2, 3, 4, 5, 6, 0] dX10_feed_21 (by decide) rfl ?_
      obtain ⟨e_4, hl, he⟩ := bnd he
      have hX : Z X 1 p l e rm_X10_feed s m args below meth c 0 0 (MQ below (QI X 1 r N s.heap.size) args s 0 0 (AA X 1 s.heap.size)) 8 e_4 120 [(0, .ref (X.2.2 109))] [] := by
        refine z_aload_n S dX10_feed_120 rfl 0 rfl ?_
        refine z_getI S fo_RX10_74 rfl ok_109 dX10_feed_121 ?_
        exact z_iret S (Prod.mk.inj (Option.some.inj he)) dX10_feed_124
      have hZ9 := loopZ (f := (fun a_4 => f_X10_feed_L23 a_4.1 a1 a2 a3 a4 a5 a_4.2)) (Zh := (fun a_4 => Z X 1 p l e rm_X10_feed s m args below meth c 0 0 (MQ below (QI X 1 r N s.heap.size) args s 0 0 (AA X 1 s.heap.size)) 8 a_4.1 23 [(0, .ref (X.2.2 109)), (1, .int a1), (2, .int a2), (3, .int a3), (4, .int a4), (5, .int a5), (6, .int a_4.2)] [])) (fun a_4 x hb hc hr => p_X10_feed_L23 S  hb hc (fun b hxe => by rw [hr b hxe]; exact hX)) FU (M1, 0) hl
      exact hZ9
    · refine z_iconst (v := (-1)) S dX10_feed_18 (by decide) ?_
      exact z_iret S (Prod.mk.inj (Option.some.inj he)) dX10_feed_19
set_option maxRecDepth 100000 in
set_option maxHeartbeats 4000000 in
theorem p_X10_fewest_L13 {X : Cx} {p : Program} {l : Launch} {e : Env} {s : State} {m : MethodId} {args : Array Value} {below : List Frame} {meth : Method} {c : Code} (S : SB X 1 p s m args meth c cX10_fewest 6 (some .int) RX10) {M : Mm} {N : Mm} {r : Int32} {v1 : Int32} {v2 : Int32} {x : (Int32 × Int32) ⊕ Int32}  (he : f_X10_fewest_L13 M v1 v2 = some x) (hc : ∀ b, x = .inl b → Z X 1 p l e rm_X10_fewest s m args below meth c 0 0 (MQ below (QI X 1 r N s.heap.size) args s 0 0 (AA X 1 s.heap.size)) 6 M 13 [(0, .ref (X.2.2 109)), (1, .int b.1), (2, .int b.2)] []) (hx : ∀ b, x = .inr b → Z X 1 p l e rm_X10_fewest s m args below meth c 0 0 (MQ below (QI X 1 r N s.heap.size) args s 0 0 (AA X 1 s.heap.size)) 6 M 38 [(0, .ref (X.2.2 109)), (1, .int b)] []) : Z X 1 p l e rm_X10_fewest s m args below meth c 0 0 (MQ below (QI X 1 r N s.heap.size) args s 0 0 (AA X 1 s.heap.size)) 6 M 13 [(0, .ref (X.2.2 109)), (1, .int v1), (2, .int v2)] [] := by
  unfold f_X10_fewest_L13 at he
  refine z_iload_n S dX10_fewest_13 rfl 2 rfl ?_
  refine z_aload_n S dX10_fewest_14 rfl 0 rfl ?_
  refine z_getF (j := 110) S fo_RX10_7 1 rfl rfl ok_109 dX10_fewest_15 ?_
  refine z_iconst (v := 4) S dX10_fewest_18 (by decide) ?_
  refine z_iald S ok_110 rfl he dX10_fewest_19 (fun he => ?_)
  refine z_icmp_ge (tgt := 38) S he dX10_fewest_20 (by decide) (fun he => ?_) (fun he => ?_)
  · refine z_lv (ks := [0, 1]) rfl ?_
    exact hx _ (Option.some.inj he).symm
  · refine z_iload_n S dX10_fewest_23 rfl 1 rfl ?_
    refine z_aload_n S dX10_fewest_24 rfl 0 rfl ?_
    refine z_getF (j := 121) S fo_RX10_47 12 rfl rfl ok_109 dX10_fewest_25 ?_
    refine z_iload_n S dX10_fewest_28 rfl 2 rfl ?_
    refine z_iald S ok_121 rfl he dX10_fewest_29 (fun he => ?_)
    refine z_ior S dX10_fewest_30 ?_
    refine z_istore_n (lv' := [(0, .ref (X.2.2 109)), (1, .int (v1 ||| (gA M 121 v2))), (2, .int v2)]) S [1, 0, 2] dX10_fewest_31 rfl (by decide) rfl ?_
    refine z_iinc (v := (v2 + 1)) (lv' := [(0, .ref (X.2.2 109)), (1, .int (v1 ||| (gA M 121 v2))), (2, .int (v2 + 1))]) S [1, 2, 0] 2 dX10_fewest_32 rfl (by rfl) (by decide) rfl ?_
    refine z_goto (tgt := 13) S dX10_fewest_35 (by decide) ?_
    refine z_lv (ks := [0, 1, 2]) rfl ?_
    exact hc _ (Option.some.inj he).symm
set_option maxRecDepth 100000 in
set_option maxHeartbeats 4000000 in
theorem p_X10_fewest_L79 {X : Cx} {p : Program} {l : Launch} {e : Env} {s : State} {m : MethodId} {args : Array Value} {below : List Frame} {meth : Method} {c : Code} (S : SB X 1 p s m args meth c cX10_fewest 6 (some .int) RX10) {M : Mm} {N : Mm} {r : Int32} {v1 : Int32} {v2 : Int32} {v3 : Int32} {v4 : Int32} {v5 : Int32} {x : (Int32 × Int32) ⊕ Int32}  (he : f_X10_fewest_L79 M v1 v2 v3 v4 v5 = some x) (hc : ∀ b, x = .inl b → Z X 1 p l e rm_X10_fewest s m args below meth c 0 0 (MQ below (QI X 1 r N s.heap.size) args s 0 0 (AA X 1 s.heap.size)) 6 M 79 [(0, .ref (X.2.2 109)), (1, .int v1), (2, .int v2), (3, .int v3), (4, .int b.1), (5, .int b.2)] []) (hx : ∀ b, x = .inr b → Z X 1 p l e rm_X10_fewest s m args below meth c 0 0 (MQ below (QI X 1 r N s.heap.size) args s 0 0 (AA X 1 s.heap.size)) 6 M 121 [(0, .ref (X.2.2 109)), (1, .int v1), (2, .int v2), (3, .int v3), (4, .int b)] []) : Z X 1 p l e rm_X10_fewest s m args below meth c 0 0 (MQ below (QI X 1 r N s.heap.size) args s 0 0 (AA X 1 s.heap.size)) 6 M 79 [(0, .ref (X.2.2 109)), (1, .int v1), (2, .int v2), (3, .int v3), (4, .int v4), (5, .int v5)] [] := by
  unfold f_X10_fewest_L79 at he
  refine z_iload S dX10_fewest_79 5 rfl ?_
  refine z_aload_n S dX10_fewest_81 rfl 0 rfl ?_
  refine z_getF (j := 110) S fo_RX10_7 1 rfl rfl ok_109 dX10_fewest_82 ?_
  refine z_iconst (v := 4) S dX10_fewest_85 (by decide) ?_
  refine z_iald S ok_110 rfl he dX10_fewest_86 (fun he => ?_)
  refine z_icmp_ge (tgt := 121) S he dX10_fewest_87 (by decide) (fun he => ?_) (fun he => ?_)
  · refine z_lv (ks := [0, 1, 2, 3, 4]) rfl ?_
    exact hx _ (Option.some.inj he).symm
  · refine z_iload S dX10_fewest_90 4 rfl ?_
    refine z_iload_n S dX10_fewest_92 rfl 3 rfl ?_
    refine z_iload S dX10_fewest_93 5 rfl ?_
    refine z_cSI (As := [.int v3, .int v5]) S cs_RX10_117 (K_X10_isOf  rfl) ⟨rfl, rfl⟩ ⟨Nat.le_of_ble_eq_true rfl, Nat.le_of_ble_eq_true rfl⟩ ⟨Nat.le_refl _, Nat.le_refl _⟩ rfl rfl (Nat.le_of_ble_eq_true rfl) dX10_fewest_95 ?_
    refine z_ifb_eq (tgt := 111) S he dX10_fewest_98 (by decide) (fun he => ?_) (fun he => ?_)
    · refine z_iconst (v := 0) S dX10_fewest_111 (by decide) ?_
      refine z_ior S dX10_fewest_112 ?_
      refine z_istore (lv' := [(0, .ref (X.2.2 109)), (1, .int v1), (2, .int v2), (3, .int v3), (4, .int (v4 ||| 0)), (5, .int v5)]) S [1, 2, 3, 4, 0, 5] dX10_fewest_113 (by decide) rfl ?_
      refine z_iinc (v := (v5 + 1)) (lv' := [(0, .ref (X.2.2 109)), (1, .int v1), (2, .int v2), (3, .int v3), (4, .int (v4 ||| 0)), (5, .int (v5 + 1))]) S [1, 2, 3, 4, 5, 0] 5 dX10_fewest_115 rfl (by rfl) (by decide) rfl ?_
      refine z_goto (tgt := 79) S dX10_fewest_118 (by decide) ?_
      refine z_lv (ks := [0, 1, 2, 3, 4, 5]) rfl ?_
      exact hc _ (Option.some.inj he).symm
    · refine z_aload_n S dX10_fewest_101 rfl 0 rfl ?_
      refine z_getF (j := 121) S fo_RX10_47 12 rfl rfl ok_109 dX10_fewest_102 ?_
      refine z_iload S dX10_fewest_105 5 rfl ?_
      refine z_iald S ok_121 rfl he dX10_fewest_107 (fun he => ?_)
      refine z_goto (tgt := 112) S dX10_fewest_108 (by decide) ?_
      refine z_ior S dX10_fewest_112 ?_
      refine z_istore (lv' := [(0, .ref (X.2.2 109)), (1, .int v1), (2, .int v2), (3, .int v3), (4, .int (v4 ||| (gA M 121 v5))), (5, .int v5)]) S [1, 2, 3, 4, 0, 5] dX10_fewest_113 (by decide) rfl ?_
      refine z_iinc (v := (v5 + 1)) (lv' := [(0, .ref (X.2.2 109)), (1, .int v1), (2, .int v2), (3, .int v3), (4, .int (v4 ||| (gA M 121 v5))), (5, .int (v5 + 1))]) S [1, 2, 3, 4, 5, 0] 5 dX10_fewest_115 rfl (by rfl) (by decide) rfl ?_
      refine z_goto (tgt := 79) S dX10_fewest_118 (by decide) ?_
      refine z_lv (ks := [0, 1, 2, 3, 4, 5]) rfl ?_
      exact hc _ (Option.some.inj he).symm
set_option maxRecDepth 100000 in
set_option maxHeartbeats 4000000 in
theorem p_X10_fewest_J42_73 {X : Cx} {p : Program} {l : Launch} {e : Env} {s : State} {m : MethodId} {args : Array Value} {below : List Frame} {meth : Method} {c : Code} (S : SB X 1 p s m args meth c cX10_fewest 6 (some .int) RX10) {M : Mm} {N : Mm} {r : Int32} {v1 : Int32} {v2 : Int32} {v3 : Int32} {x : (Int32 × Int32) ⊕ Int32}  (he : f_X10_fewest_J42_73 M v1 v2 v3 = some x) (hc : ∀ b, x = .inl b → Z X 1 p l e rm_X10_fewest s m args below meth c 0 0 (MQ below (QI X 1 r N s.heap.size) args s 0 0 (AA X 1 s.heap.size)) 6 M 42 [(0, .ref (X.2.2 109)), (1, .int v1), (2, .int b.1), (3, .int b.2)] []) (hx : ∀ b, x = .inr b → Z X 1 p l e rm_X10_fewest s m args below meth c 0 0 (MQ below (QI X 1 r N s.heap.size) args s 0 0 (AA X 1 s.heap.size)) 6 M 135 [(2, .int b)] []) : Z X 1 p l e rm_X10_fewest s m args below meth c 0 0 (MQ below (QI X 1 r N s.heap.size) args s 0 0 (AA X 1 s.heap.size)) 6 M 73 [(0, .ref (X.2.2 109)), (1, .int v1), (2, .int v2), (3, .int v3)] [] := by
  unfold f_X10_fewest_J42_73 at he
  refine z_iconst (v := 0) S dX10_fewest_73 (by decide) ?_
  refine z_istore (lv' := [(0, .ref (X.2.2 109)), (1, .int v1), (2, .int v2), (3, .int v3), (4, .int 0)]) S [1, 2, 3, 4, 0] dX10_fewest_74 (by decide) rfl ?_
  refine z_iconst (v := 0) S dX10_fewest_76 (by decide) ?_
  refine z_istore (lv' := [(0, .ref (X.2.2 109)), (1, .int v1), (2, .int v2), (3, .int v3), (4, .int 0), (5, .int 0)]) S [1, 2, 3, 4, 5, 0] dX10_fewest_77 (by decide) rfl ?_
  obtain ⟨e_4, hl, he⟩ := bnd he
  have hX : Z X 1 p l e rm_X10_fewest s m args below meth c 0 0 (MQ below (QI X 1 r N s.heap.size) args s 0 0 (AA X 1 s.heap.size)) 6 M 121 [(0, .ref (X.2.2 109)), (1, .int v1), (2, .int v2), (3, .int v3), (4, .int e_4)] [] := by
    refine z_iload S dX10_fewest_121 4 rfl ?_
    refine z_iload_n S dX10_fewest_123 rfl 1 rfl ?_
    refine z_icmp_ne (tgt := 129) S he dX10_fewest_124 (by decide) (fun he => ?_) (fun he => ?_)
    · refine z_iinc (v := (v3 + 1)) (lv' := [(0, .ref (X.2.2 109)), (1, .int v1), (2, .int v2), (3, .int (v3 + 1)), (4, .int e_4)]) S [1, 2, 3, 0, 4] 3 dX10_fewest_129 rfl (by rfl) (by decide) rfl ?_
      refine z_goto (tgt := 42) S dX10_fewest_132 (by decide) ?_
      refine z_lv (ks := [0, 1, 2, 3]) rfl ?_
      exact hc _ (Option.some.inj he).symm
    · refine z_iload_n S dX10_fewest_127 rfl 3 rfl ?_
      refine z_istore_n (lv' := [(0, .ref (X.2.2 109)), (1, .int v1), (2, .int v3), (3, .int v3)]) S [1, 2, 0, 3] dX10_fewest_128 rfl (by decide) rfl ?_
      refine z_iinc (v := (v3 + 1)) (lv' := [(0, .ref (X.2.2 109)), (1, .int v1), (2, .int v3), (3, .int (v3 + 1))]) S [1, 2, 3, 0] 3 dX10_fewest_129 rfl (by rfl) (by decide) rfl ?_
      refine z_goto (tgt := 42) S dX10_fewest_132 (by decide) ?_
      refine z_lv (ks := [0, 1, 2, 3]) rfl ?_
      exact hc _ (Option.some.inj he).symm
  have hZ9 := loopZ (f := (fun a_4 => f_X10_fewest_L79 M v1 v2 v3 a_4.1 a_4.2)) (Zh := (fun a_4 => Z X 1 p l e rm_X10_fewest s m args below meth c 0 0 (MQ below (QI X 1 r N s.heap.size) args s 0 0 (AA X 1 s.heap.size)) 6 M 79 [(0, .ref (X.2.2 109)), (1, .int v1), (2, .int v2), (3, .int v3), (4, .int a_4.1), (5, .int a_4.2)] [])) (fun a_4 x hb hc hr => p_X10_fewest_L79 S  hb hc (fun b hxe => by rw [hr b hxe]; exact hX)) FU (0, 0) hl
  exact hZ9
set_option maxRecDepth 100000 in
set_option maxHeartbeats 4000000 in
theorem p_X10_fewest_L42 {X : Cx} {p : Program} {l : Launch} {e : Env} {s : State} {m : MethodId} {args : Array Value} {below : List Frame} {meth : Method} {c : Code} (S : SB X 1 p s m args meth c cX10_fewest 6 (some .int) RX10) {M : Mm} {N : Mm} {r : Int32} {v1 : Int32} {v2 : Int32} {v3 : Int32} {x : (Int32 × Int32) ⊕ Int32}  (he : f_X10_fewest_L42 M v1 v2 v3 = some x) (hc : ∀ b, x = .inl b → Z X 1 p l e rm_X10_fewest s m args below meth c 0 0 (MQ below (QI X 1 r N s.heap.size) args s 0 0 (AA X 1 s.heap.size)) 6 M 42 [(0, .ref (X.2.2 109)), (1, .int v1), (2, .int b.1), (3, .int b.2)] []) (hx : ∀ b, x = .inr b → Z X 1 p l e rm_X10_fewest s m args below meth c 0 0 (MQ below (QI X 1 r N s.heap.size) args s 0 0 (AA X 1 s.heap.size)) 6 M 135 [(2, .int b)] []) : Z X 1 p l e rm_X10_fewest s m args below meth c 0 0 (MQ below (QI X 1 r N s.heap.size) args s 0 0 (AA X 1 s.heap.size)) 6 M 42 [(0, .ref (X.2.2 109)), (1, .int v1), (2, .int v2), (3, .int v3)] [] := by
  unfold f_X10_fewest_L42 at he
  refine z_iload_n S dX10_fewest_42 rfl 3 rfl ?_
  refine z_iconst (v := 1) S dX10_fewest_43 (by decide) ?_
  refine z_aload_n S dX10_fewest_44 rfl 0 rfl ?_
  refine z_getF (j := 110) S fo_RX10_7 1 rfl rfl ok_109 dX10_fewest_45 ?_
  refine z_iconst (v := 4) S dX10_fewest_48 (by decide) ?_
  refine z_iald S ok_110 rfl he dX10_fewest_49 (fun he => ?_)
  refine z_ishl S dX10_fewest_50 ?_
  refine z_icmp_ge (tgt := 135) S he dX10_fewest_51 (by decide) (fun he => ?_) (fun he => ?_)
  · refine z_lv (ks := [2]) rfl ?_
    exact hx _ (Option.some.inj he).symm
  · refine z_iload_n S dX10_fewest_54 rfl 2 rfl ?_
    refine z_iconst (v := (-1)) S dX10_fewest_55 (by decide) ?_
    refine z_icmp_eq (tgt := 73) S he dX10_fewest_56 (by decide) (fun he => ?_) (fun he => ?_)
    · exact p_X10_fewest_J42_73 S  he hc hx
    · refine z_iload_n S dX10_fewest_59 rfl 3 rfl ?_
      obtain ⟨r5, h9, he⟩ := bnd he
      refine z_cSI (As := [.int v3]) S cs_RX10_321 (K_X10_bits  h9) ⟨rfl, rfl⟩ ⟨Nat.le_of_ble_eq_true rfl, Nat.le_of_ble_eq_true rfl⟩ ⟨Nat.le_refl _, Nat.le_refl _⟩ rfl rfl (Nat.le_of_ble_eq_true rfl) dX10_fewest_60 ?_
      refine z_iload_n S dX10_fewest_63 rfl 2 rfl ?_
      obtain ⟨r6, h9, he⟩ := bnd he
      refine z_cSI (As := [.int v2]) S cs_RX10_321 (K_X10_bits  h9) ⟨rfl, rfl⟩ ⟨Nat.le_of_ble_eq_true rfl, Nat.le_of_ble_eq_true rfl⟩ ⟨Nat.le_refl _, Nat.le_refl _⟩ rfl rfl (Nat.le_of_ble_eq_true rfl) dX10_fewest_64 ?_
      refine z_icmp_lt (tgt := 73) S he dX10_fewest_67 (by decide) (fun he => ?_) (fun he => ?_)
      · exact p_X10_fewest_J42_73 S  he hc hx
      · refine z_goto (tgt := 129) S dX10_fewest_70 (by decide) ?_
        refine z_iinc (v := (v3 + 1)) (lv' := [(0, .ref (X.2.2 109)), (1, .int v1), (2, .int v2), (3, .int (v3 + 1))]) S [1, 2, 3, 0] 3 dX10_fewest_129 rfl (by rfl) (by decide) rfl ?_
        refine z_goto (tgt := 42) S dX10_fewest_132 (by decide) ?_
        refine z_lv (ks := [0, 1, 2, 3]) rfl ?_
        exact hc _ (Option.some.inj he).symm
set_option maxRecDepth 100000 in
set_option maxHeartbeats 4000000 in
theorem K_X10_fewest {X : Cx} {l : Launch} {M : Mm} {r : Int32} {N : Mm}  (he : f_X10_fewest M  = some (r, N)) : KI X 1 l yX10_fewest (wz yX10_fewest cX10_fewest 6 (some .int)) rm_X10_fewest [.ref (X.2.2 109)] M r N := by
  intro sz
  refine K_of (Qc := (fun sz => QI X 1 r N sz)) (own := RX10) (lv0 := [(0, .ref (X.2.2 109))]) (by decide +kernel) rfl (Nat.le_of_ble_eq_true rfl) rfl (fun p e s m args below meth c S => ?_) sz
  · unfold f_X10_fewest at he
    refine z_aload_n S dX10_fewest_0 rfl 0 rfl ?_
    refine z_iconst (v := 0) S dX10_fewest_1 (by decide) ?_
    refine z_putIb S fo_RX10_63p rfl ok_109 rfl rfl he dX10_fewest_2 (fun M1 he => ?_)
    refine z_aload_n S dX10_fewest_5 rfl 0 rfl ?_
    obtain ⟨M2, h9, he⟩ := bnd he
    refine z_cVV (As := []) S cv_RX10_318 (K_X10_looks  h9) ok_109 (by decide) (q := (RX10, TX10, 28)) rfl rfl ⟨rfl, rfl⟩ ⟨Nat.le_of_ble_eq_true rfl, Nat.le_of_ble_eq_true rfl⟩ ⟨Nat.le_refl _, Nat.le_refl _⟩ rfl rfl (Nat.le_of_ble_eq_true rfl) dX10_fewest_6 ?_
    refine z_iconst (v := 0) S dX10_fewest_9 (by decide) ?_
    refine z_istore_n (lv' := [(0, .ref (X.2.2 109)), (1, .int 0)]) S [1, 0] dX10_fewest_10 rfl (by decide) rfl ?_
    refine z_iconst (v := 0) S dX10_fewest_11 (by decide) ?_
    refine z_istore_n (lv' := [(0, .ref (X.2.2 109)), (1, .int 0), (2, .int 0)]) S [1, 2, 0] dX10_fewest_12 rfl (by decide) rfl ?_
    obtain ⟨e_3, hl, he⟩ := bnd he
    have hX : Z X 1 p l e rm_X10_fewest s m args below meth c 0 0 (MQ below (QI X 1 r N s.heap.size) args s 0 0 (AA X 1 s.heap.size)) 6 M2 38 [(0, .ref (X.2.2 109)), (1, .int e_3)] [] := by
      refine z_iconst (v := (-1)) S dX10_fewest_38 (by decide) ?_
      refine z_istore_n (lv' := [(0, .ref (X.2.2 109)), (1, .int e_3), (2, .int (-1))]) S [1, 2, 0] dX10_fewest_39 rfl (by decide) rfl ?_
      refine z_iconst (v := 0) S dX10_fewest_40 (by decide) ?_
      refine z_istore_n (lv' := [(0, .ref (X.2.2 109)), (1, .int e_3), (2, .int (-1)), (3, .int 0)]) S [1, 2, 3, 0] dX10_fewest_41 rfl (by decide) rfl ?_
      obtain ⟨e_7, hl, he⟩ := bnd he
      have hX : Z X 1 p l e rm_X10_fewest s m args below meth c 0 0 (MQ below (QI X 1 r N s.heap.size) args s 0 0 (AA X 1 s.heap.size)) 6 M2 135 [(2, .int e_7)] [] := by
        refine z_iload_n S dX10_fewest_135 rfl 0 rfl ?_
        exact z_iret S (Prod.mk.inj (Option.some.inj he)) dX10_fewest_136
      have hZ9 := loopZ (f := (fun a_7 => f_X10_fewest_L42 M2 e_3 a_7.1 a_7.2)) (Zh := (fun a_7 => Z X 1 p l e rm_X10_fewest s m args below meth c 0 0 (MQ below (QI X 1 r N s.heap.size) args s 0 0 (AA X 1 s.heap.size)) 6 M2 42 [(0, .ref (X.2.2 109)), (1, .int e_3), (2, .int a_7.1), (3, .int a_7.2)] [])) (fun a_7 x hb hc hr => p_X10_fewest_L42 S  hb hc (fun b hxe => by rw [hr b hxe]; exact hX)) FU ((-1), 0) hl
      exact hZ9
    have hZ9 := loopZ (f := (fun a_3 => f_X10_fewest_L13 M2 a_3.1 a_3.2)) (Zh := (fun a_3 => Z X 1 p l e rm_X10_fewest s m args below meth c 0 0 (MQ below (QI X 1 r N s.heap.size) args s 0 0 (AA X 1 s.heap.size)) 6 M2 13 [(0, .ref (X.2.2 109)), (1, .int a_3.1), (2, .int a_3.2)] [])) (fun a_3 x hb hc hr => p_X10_fewest_L13 S  hb hc (fun b hxe => by rw [hr b hxe]; exact hX)) FU (0, 0) hl
    exact hZ9
set_option maxRecDepth 100000 in
set_option maxHeartbeats 4000000 in
theorem p_X10_first_L11 {X : Cx} {p : Program} {l : Launch} {e : Env} {s : State} {m : MethodId} {args : Array Value} {below : List Frame} {meth : Method} {c : Code} (S : SB X 1 p s m args meth c cX10_first 3 (some .int) RX10) {M : Mm} {N : Mm} {r : Int32} {v1 : Int32} {x : Int32 ⊕ ((Int32 × Mm) ⊕ Unit)}  (he : f_X10_first_L11 M v1 = some x) (hc : ∀ b, x = .inl b → Z X 1 p l e rm_X10_first s m args below meth c 0 0 (MQ below (QI X 1 r N s.heap.size) args s 0 0 (AA X 1 s.heap.size)) 3 M 11 [(0, .ref (X.2.2 109)), (1, .int b)] []) (hx : ∀ b, x = .inr (.inr b) → Z X 1 p l e rm_X10_first s m args below meth c 0 0 (MQ below (QI X 1 r N s.heap.size) args s 0 0 (AA X 1 s.heap.size)) 3 M 55 [] []) (hr : ∀ v, x = .inr (.inl v) → v = (r, N)) : Z X 1 p l e rm_X10_first s m args below meth c 0 0 (MQ below (QI X 1 r N s.heap.size) args s 0 0 (AA X 1 s.heap.size)) 3 M 11 [(0, .ref (X.2.2 109)), (1, .int v1)] [] := by
  unfold f_X10_first_L11 at he
  refine z_iload_n S dX10_first_11 rfl 1 rfl ?_
  refine z_bipush (v := 20) S dX10_first_12 (by decide) ?_
  refine z_icmp_ge (tgt := 55) S he dX10_first_14 (by decide) (fun he => ?_) (fun he => ?_)
  · refine z_lv (ks := []) rfl ?_
    exact hx _ (Option.some.inj he).symm
  · refine z_aload_n S dX10_first_17 rfl 0 rfl ?_
    refine z_iload_n S dX10_first_18 rfl 1 rfl ?_
    obtain ⟨r3, h9, he⟩ := bnd he
    refine z_cVI (As := [.int v1]) S cv_RX10_122 (K_X10_thingAt  h9) ok_109 (by decide) (q := (RX10, TX10, 28)) rfl rfl ⟨rfl, rfl⟩ ⟨Nat.le_of_ble_eq_true rfl, Nat.le_of_ble_eq_true rfl⟩ ⟨Nat.le_refl _, Nat.le_refl _⟩ rfl rfl (Nat.le_of_ble_eq_true rfl) dX10_first_19 ?_
    refine z_istore_n (lv' := [(0, .ref (X.2.2 109)), (1, .int v1), (2, .int r3)]) S [1, 2, 0] dX10_first_22 rfl (by decide) rfl ?_
    refine z_iload_n S dX10_first_23 rfl 2 rfl ?_
    refine z_iconst (v := (-1)) S dX10_first_24 (by decide) ?_
    refine z_icmp_eq (tgt := 49) S he dX10_first_25 (by decide) (fun he => ?_) (fun he => ?_)
    · refine z_iinc (v := (v1 + 1)) (lv' := [(0, .ref (X.2.2 109)), (1, .int (v1 + 1)), (2, .int r3)]) S [1, 0, 2] 1 dX10_first_49 rfl (by rfl) (by decide) rfl ?_
      refine z_goto (tgt := 11) S dX10_first_52 (by decide) ?_
      refine z_lv (ks := [0, 1]) rfl ?_
      exact hc _ (Option.some.inj he).symm
    · refine z_aload_n S dX10_first_28 rfl 0 rfl ?_
      refine z_iload_n S dX10_first_29 rfl 2 rfl ?_
      refine z_iconst (v := 3) S dX10_first_30 (by decide) ?_
      obtain ⟨r4, h9, he⟩ := bnd he
      refine z_cVI (As := [.int r3, .int 3]) S cv_RX10_70 (K_X10_of  h9) ok_109 (by decide) (q := (RX10, TX10, 28)) rfl rfl ⟨rfl, rfl⟩ ⟨Nat.le_of_ble_eq_true rfl, Nat.le_of_ble_eq_true rfl⟩ ⟨Nat.le_refl _, Nat.le_refl _⟩ rfl rfl (Nat.le_of_ble_eq_true rfl) dX10_first_31 ?_
      refine z_iconst (v := 1) S dX10_first_34 (by decide) ?_
      refine z_icmp_ne (tgt := 49) S he dX10_first_35 (by decide) (fun he => ?_) (fun he => ?_)
      · refine z_iinc (v := (v1 + 1)) (lv' := [(0, .ref (X.2.2 109)), (1, .int (v1 + 1)), (2, .int r3)]) S [1, 0, 2] 1 dX10_first_49 rfl (by rfl) (by decide) rfl ?_
        refine z_goto (tgt := 11) S dX10_first_52 (by decide) ?_
        refine z_lv (ks := [0, 1]) rfl ?_
        exact hc _ (Option.some.inj he).symm
      · refine z_aload_n S dX10_first_38 rfl 0 rfl ?_
        refine z_getF (j := 119) S fo_RX10_41 10 rfl rfl ok_109 dX10_first_39 ?_
        refine z_iload_n S dX10_first_42 rfl 2 rfl ?_
        refine z_iald S ok_119 rfl he dX10_first_43 (fun he => ?_)
        refine z_if_ne (tgt := 49) S he dX10_first_44 (by decide) (fun he => ?_) (fun he => ?_)
        · refine z_iinc (v := (v1 + 1)) (lv' := [(0, .ref (X.2.2 109)), (1, .int (v1 + 1)), (2, .int r3)]) S [1, 0, 2] 1 dX10_first_49 rfl (by rfl) (by decide) rfl ?_
          refine z_goto (tgt := 11) S dX10_first_52 (by decide) ?_
          refine z_lv (ks := [0, 1]) rfl ?_
          exact hc _ (Option.some.inj he).symm
        · refine z_iload_n S dX10_first_47 rfl 2 rfl ?_
          exact z_iret S (Prod.mk.inj (hr _ (Option.some.inj he).symm)) dX10_first_48
set_option maxRecDepth 100000 in
set_option maxHeartbeats 4000000 in
theorem K_X10_first {X : Cx} {l : Launch} {M : Mm} {r : Int32} {N : Mm}  (he : f_X10_first M  = some (r, N)) : KI X 1 l yX10_first (wz yX10_first cX10_first 3 (some .int)) rm_X10_first [.ref (X.2.2 109)] M r N := by
  intro sz
  refine K_of (Qc := (fun sz => QI X 1 r N sz)) (own := RX10) (lv0 := [(0, .ref (X.2.2 109))]) (by decide +kernel) rfl (Nat.le_of_ble_eq_true rfl) rfl (fun p e s m args below meth c S => ?_) sz
  · unfold f_X10_first at he
    refine z_aload_n S dX10_first_0 rfl 0 rfl ?_
    refine z_iconst (v := 0) S dX10_first_1 (by decide) ?_
    refine z_putIb S fo_RX10_63p rfl ok_109 rfl rfl he dX10_first_2 (fun M1 he => ?_)
    refine z_aload_n S dX10_first_5 rfl 0 rfl ?_
    obtain ⟨M2, h9, he⟩ := bnd he
    refine z_cVV (As := []) S cv_RX10_288 (K_X10_tomorrow  h9) ok_109 (by decide) (q := (RX10, TX10, 28)) rfl rfl ⟨rfl, rfl⟩ ⟨Nat.le_of_ble_eq_true rfl, Nat.le_of_ble_eq_true rfl⟩ ⟨Nat.le_refl _, Nat.le_refl _⟩ rfl rfl (Nat.le_of_ble_eq_true rfl) dX10_first_6 ?_
    refine z_iconst (v := 0) S dX10_first_9 (by decide) ?_
    refine z_istore_n (lv' := [(0, .ref (X.2.2 109)), (1, .int 0)]) S [1, 0] dX10_first_10 rfl (by decide) rfl ?_
    obtain ⟨r9, hl, hr1, hr2⟩ := bndS he
    have hX : ∀ e_5, r9 = .inr e_5 → Z X 1 p l e rm_X10_first s m args below meth c 0 0 (MQ below (QI X 1 r N s.heap.size) args s 0 0 (AA X 1 s.heap.size)) 3 M2 55 [] [] := by
      intro e_5 hre
      have he := hr2 e_5 hre
      refine z_iconst (v := (-1)) S dX10_first_55 (by decide) ?_
      exact z_iret S (Prod.mk.inj (Option.some.inj he)) dX10_first_56
    have hZ9 := loopZ (f := (fun a_5 => f_X10_first_L11 M2 a_5)) (Zh := (fun a_5 => Z X 1 p l e rm_X10_first s m args below meth c 0 0 (MQ below (QI X 1 r N s.heap.size) args s 0 0 (AA X 1 s.heap.size)) 3 M2 11 [(0, .ref (X.2.2 109)), (1, .int a_5)] [])) (fun a_5 x hb hc hr9 => p_X10_first_L11 S  hb hc (fun b hxe => hX b (hr9 _ hxe).symm) (fun v hxv => Option.some.inj (hr1 v (hr9 _ hxv).symm))) FU 0 hl
    exact hZ9
set_option maxRecDepth 100000 in
set_option maxHeartbeats 4000000 in
theorem p_X10_group_J37_86 {X : Cx} {p : Program} {l : Launch} {e : Env} {s : State} {m : MethodId} {args : Array Value} {below : List Frame} {meth : Method} {c : Code} (S : SB X 1 p s m args meth c cX10_group 5 (some .int) RX10) {M : Mm} {N : Mm} {r : Int32} {v1 : Int32} {v2 : Int32} {v4 : Int32} {t0 : Int32} {t1 : Int32} {x : (Int32 × Int32) ⊕ Int32}  (he : f_X10_group_J37_86 M v1 v2 v4 t0 t1 = some x) (hc : ∀ b, x = .inl b → Z X 1 p l e rm_X10_group s m args below meth c 0 0 (MQ below (QI X 1 r N s.heap.size) args s 0 0 (AA X 1 s.heap.size)) 5 M 37 [(0, .ref (X.2.2 109)), (1, .int v1), (2, .int v2), (3, .int b.1), (4, .int b.2)] []) (hx : ∀ b, x = .inr b → Z X 1 p l e rm_X10_group s m args below meth c 0 0 (MQ below (QI X 1 r N s.heap.size) args s 0 0 (AA X 1 s.heap.size)) 5 M 124 [(3, .int b)] []) : Z X 1 p l e rm_X10_group s m args below meth c 0 0 (MQ below (QI X 1 r N s.heap.size) args s 0 0 (AA X 1 s.heap.size)) 5 M 86 [(0, .ref (X.2.2 109)), (1, .int v1), (2, .int v2), (4, .int v4)] [.int t0, .int t1] := by
  unfold f_X10_group_J37_86 at he
  refine z_ior S dX10_group_86 ?_
  refine z_istore_n (lv' := [(0, .ref (X.2.2 109)), (1, .int v1), (2, .int v2), (3, .int (t1 ||| t0)), (4, .int v4)]) S [1, 2, 3, 0, 4] dX10_group_87 rfl (by decide) rfl ?_
  refine z_goto (tgt := 118) S dX10_group_88 (by decide) ?_
  refine z_iinc (v := (v4 + 1)) (lv' := [(0, .ref (X.2.2 109)), (1, .int v1), (2, .int v2), (3, .int (t1 ||| t0)), (4, .int (v4 + 1))]) S [1, 2, 3, 4, 0] 4 dX10_group_118 rfl (by rfl) (by decide) rfl ?_
  refine z_goto (tgt := 37) S dX10_group_121 (by decide) ?_
  refine z_lv (ks := [0, 1, 2, 3, 4]) rfl ?_
  exact hc _ (Option.some.inj he).symm
set_option maxRecDepth 100000 in
set_option maxHeartbeats 4000000 in
theorem p_X10_group_L37 {X : Cx} {p : Program} {l : Launch} {e : Env} {s : State} {m : MethodId} {args : Array Value} {below : List Frame} {meth : Method} {c : Code} (S : SB X 1 p s m args meth c cX10_group 5 (some .int) RX10) {M : Mm} {N : Mm} {r : Int32} {v1 : Int32} {v2 : Int32} {v3 : Int32} {v4 : Int32} {x : (Int32 × Int32) ⊕ Int32}  (he : f_X10_group_L37 M v1 v2 v3 v4 = some x) (hc : ∀ b, x = .inl b → Z X 1 p l e rm_X10_group s m args below meth c 0 0 (MQ below (QI X 1 r N s.heap.size) args s 0 0 (AA X 1 s.heap.size)) 5 M 37 [(0, .ref (X.2.2 109)), (1, .int v1), (2, .int v2), (3, .int b.1), (4, .int b.2)] []) (hx : ∀ b, x = .inr b → Z X 1 p l e rm_X10_group s m args below meth c 0 0 (MQ below (QI X 1 r N s.heap.size) args s 0 0 (AA X 1 s.heap.size)) 5 M 124 [(3, .int b)] []) : Z X 1 p l e rm_X10_group s m args below meth c 0 0 (MQ below (QI X 1 r N s.heap.size) args s 0 0 (AA X 1 s.heap.size)) 5 M 37 [(0, .ref (X.2.2 109)), (1, .int v1), (2, .int v2), (3, .int v3), (4, .int v4)] [] := by
  unfold f_X10_group_L37 at he
  refine z_iload S dX10_group_37 4 rfl ?_
  refine z_aload_n S dX10_group_39 rfl 0 rfl ?_
  refine z_getF (j := 110) S fo_RX10_7 1 rfl rfl ok_109 dX10_group_40 ?_
  refine z_iconst (v := 4) S dX10_group_43 (by decide) ?_
  refine z_iald S ok_110 rfl he dX10_group_44 (fun he => ?_)
  refine z_icmp_ge (tgt := 124) S he dX10_group_45 (by decide) (fun he => ?_) (fun he => ?_)
  · refine z_lv (ks := [3]) rfl ?_
    exact hx _ (Option.some.inj he).symm
  · refine z_aload_n S dX10_group_48 rfl 0 rfl ?_
    refine z_iload S dX10_group_49 4 rfl ?_
    refine z_iconst (v := 2) S dX10_group_51 (by decide) ?_
    obtain ⟨r3, h9, he⟩ := bnd he
    refine z_cVI (As := [.int v4, .int 2]) S cv_RX10_246 (K_X10_ofOne  h9) ok_109 (by decide) (q := (RX10, TX10, 28)) rfl rfl ⟨rfl, rfl⟩ ⟨Nat.le_of_ble_eq_true rfl, Nat.le_of_ble_eq_true rfl⟩ ⟨Nat.le_refl _, Nat.le_refl _⟩ rfl rfl (Nat.le_of_ble_eq_true rfl) dX10_group_52 ?_
    refine z_iload_n S dX10_group_55 rfl 1 rfl ?_
    refine z_icmp_eq (tgt := 62) S he dX10_group_56 (by decide) (fun he => ?_) (fun he => ?_)
    · refine z_iload_n S dX10_group_62 rfl 2 rfl ?_
      refine z_if_eq (tgt := 91) S he dX10_group_63 (by decide) (fun he => ?_) (fun he => ?_)
      · refine z_iload_n S dX10_group_91 rfl 3 rfl ?_
        refine z_aload_n S dX10_group_92 rfl 0 rfl ?_
        refine z_getF (j := 117) S fo_RX10_35 8 rfl rfl ok_109 dX10_group_93 ?_
        refine z_iload S dX10_group_96 4 rfl ?_
        refine z_iald S ok_117 rfl he dX10_group_98 (fun he => ?_)
        refine z_iconst (v := (-1)) S dX10_group_99 (by decide) ?_
        refine z_icmp_ne (tgt := 107) S he dX10_group_100 (by decide) (fun he => ?_) (fun he => ?_)
        · refine z_iconst (v := 1) S dX10_group_107 (by decide) ?_
          refine z_aload_n S dX10_group_108 rfl 0 rfl ?_
          refine z_getF (j := 117) S fo_RX10_35 8 rfl rfl ok_109 dX10_group_109 ?_
          refine z_iload S dX10_group_112 4 rfl ?_
          refine z_iald S ok_117 rfl he dX10_group_114 (fun he => ?_)
          refine z_ishl S dX10_group_115 ?_
          refine z_ior S dX10_group_116 ?_
          obtain ⟨x4, ex4, he⟩ := bnd he
          rw [Option.some.inj ex4]
          refine z_istore_n (lv' := [(0, .ref (X.2.2 109)), (1, .int v1), (2, .int v2), (3, .int x4), (4, .int v4)]) S [1, 2, 3, 0, 4] dX10_group_117 rfl (by decide) rfl ?_
          refine z_iinc (v := (v4 + 1)) (lv' := [(0, .ref (X.2.2 109)), (1, .int v1), (2, .int v2), (3, .int x4), (4, .int (v4 + 1))]) S [1, 2, 3, 4, 0] 4 dX10_group_118 rfl (by rfl) (by decide) rfl ?_
          refine z_goto (tgt := 37) S dX10_group_121 (by decide) ?_
          refine z_lv (ks := [0, 1, 2, 3, 4]) rfl ?_
          exact hc _ (Option.some.inj he).symm
        · refine z_iconst (v := 0) S dX10_group_103 (by decide) ?_
          refine z_goto (tgt := 116) S dX10_group_104 (by decide) ?_
          refine z_ior S dX10_group_116 ?_
          refine z_istore_n (lv' := [(0, .ref (X.2.2 109)), (1, .int v1), (2, .int v2), (3, .int (v3 ||| 0)), (4, .int v4)]) S [1, 2, 3, 0, 4] dX10_group_117 rfl (by decide) rfl ?_
          refine z_iinc (v := (v4 + 1)) (lv' := [(0, .ref (X.2.2 109)), (1, .int v1), (2, .int v2), (3, .int (v3 ||| 0)), (4, .int (v4 + 1))]) S [1, 2, 3, 4, 0] 4 dX10_group_118 rfl (by rfl) (by decide) rfl ?_
          refine z_goto (tgt := 37) S dX10_group_121 (by decide) ?_
          refine z_lv (ks := [0, 1, 2, 3, 4]) rfl ?_
          exact hc _ (Option.some.inj he).symm
      · refine z_iload_n S dX10_group_66 rfl 3 rfl ?_
        refine z_aload_n S dX10_group_67 rfl 0 rfl ?_
        refine z_getF (j := 117) S fo_RX10_35 8 rfl rfl ok_109 dX10_group_68 ?_
        refine z_iload S dX10_group_71 4 rfl ?_
        refine z_iald S ok_117 rfl he dX10_group_73 (fun he => ?_)
        refine z_iconst (v := (-1)) S dX10_group_74 (by decide) ?_
        refine z_icmp_ne (tgt := 85) S he dX10_group_75 (by decide) (fun he => ?_) (fun he => ?_)
        · refine z_iconst (v := 0) S dX10_group_85 (by decide) ?_
          refine z_lv (ks := [0, 1, 2, 4]) rfl ?_
          exact p_X10_group_J37_86 S  he hc hx
        · refine z_iconst (v := 1) S dX10_group_78 (by decide) ?_
          refine z_iload S dX10_group_79 4 rfl ?_
          refine z_ishl S dX10_group_81 ?_
          refine z_goto (tgt := 86) S dX10_group_82 (by decide) ?_
          refine z_lv (ks := [0, 1, 2, 4]) rfl ?_
          exact p_X10_group_J37_86 S  he hc hx
    · refine z_goto (tgt := 118) S dX10_group_59 (by decide) ?_
      refine z_iinc (v := (v4 + 1)) (lv' := [(0, .ref (X.2.2 109)), (1, .int v1), (2, .int v2), (3, .int v3), (4, .int (v4 + 1))]) S [1, 2, 3, 4, 0] 4 dX10_group_118 rfl (by rfl) (by decide) rfl ?_
      refine z_goto (tgt := 37) S dX10_group_121 (by decide) ?_
      refine z_lv (ks := [0, 1, 2, 3, 4]) rfl ?_
      exact hc _ (Option.some.inj he).symm
set_option maxRecDepth 100000 in
set_option maxHeartbeats 4000000 in
theorem p_X10_group_J16 {X : Cx} {p : Program} {l : Launch} {e : Env} {s : State} {m : MethodId} {args : Array Value} {below : List Frame} {meth : Method} {c : Code} (S : SB X 1 p s m args meth c cX10_group 5 (some .int) RX10) {M : Mm} {N : Mm} {r : Int32} {v1 : Int32} {v2 : Int32} {t0 : Int32}  (he : f_X10_group_J16 M v1 v2 t0 = some (r, N)) : Z X 1 p l e rm_X10_group s m args below meth c 0 0 (MQ below (QI X 1 r N s.heap.size) args s 0 0 (AA X 1 s.heap.size)) 5 M 16 [(0, .ref (X.2.2 109)), (1, .int v1), (2, .int v2)] [.int t0, .ref (X.2.2 109)] := by
  unfold f_X10_group_J16 at he
  refine z_putIb S fo_RX10_63p rfl ok_109 rfl rfl he dX10_group_16 (fun M1 he => ?_)
  refine z_aload_n S dX10_group_19 rfl 0 rfl ?_
  refine z_getI S fo_RX10_63 rfl ok_109 dX10_group_20 ?_
  refine z_if_le (tgt := 28) S he dX10_group_23 (by decide) (fun he => ?_) (fun he => ?_)
  · refine z_aload_n S dX10_group_28 rfl 0 rfl ?_
    obtain ⟨M2, h9, he⟩ := bnd he
    refine z_cVV (As := []) S cv_RX10_288 (K_X10_tomorrow  h9) ok_109 (by decide) (q := (RX10, TX10, 28)) rfl rfl ⟨rfl, rfl⟩ ⟨Nat.le_of_ble_eq_true rfl, Nat.le_of_ble_eq_true rfl⟩ ⟨Nat.le_refl _, Nat.le_refl _⟩ rfl rfl (Nat.le_of_ble_eq_true rfl) dX10_group_29 ?_
    refine z_iconst (v := 0) S dX10_group_32 (by decide) ?_
    refine z_istore_n (lv' := [(0, .ref (X.2.2 109)), (1, .int v1), (2, .int v2), (3, .int 0)]) S [1, 2, 3, 0] dX10_group_33 rfl (by decide) rfl ?_
    refine z_iconst (v := 0) S dX10_group_34 (by decide) ?_
    refine z_istore (lv' := [(0, .ref (X.2.2 109)), (1, .int v1), (2, .int v2), (3, .int 0), (4, .int 0)]) S [1, 2, 3, 4, 0] dX10_group_35 (by decide) rfl ?_
    obtain ⟨e_5, hl, he⟩ := bnd he
    have hX : Z X 1 p l e rm_X10_group s m args below meth c 0 0 (MQ below (QI X 1 r N s.heap.size) args s 0 0 (AA X 1 s.heap.size)) 5 M2 124 [(3, .int e_5)] [] := by
      refine z_iload_n S dX10_group_124 rfl 0 rfl ?_
      exact z_iret S (Prod.mk.inj (Option.some.inj he)) dX10_group_125
    have hZ9 := loopZ (f := (fun a_5 => f_X10_group_L37 M2 v1 v2 a_5.1 a_5.2)) (Zh := (fun a_5 => Z X 1 p l e rm_X10_group s m args below meth c 0 0 (MQ below (QI X 1 r N s.heap.size) args s 0 0 (AA X 1 s.heap.size)) 5 M2 37 [(0, .ref (X.2.2 109)), (1, .int v1), (2, .int v2), (3, .int a_5.1), (4, .int a_5.2)] [])) (fun a_5 x hb hc hr => p_X10_group_L37 S  hb hc (fun b hxe => by rw [hr b hxe]; exact hX)) FU (0, 0) hl
    exact hZ9
  · refine z_iconst (v := 0) S dX10_group_26 (by decide) ?_
    exact z_iret S (Prod.mk.inj (Option.some.inj he)) dX10_group_27
set_option maxRecDepth 100000 in
set_option maxHeartbeats 4000000 in
theorem K_X10_group {X : Cx} {l : Launch} {M : Mm} {a1 : Int32} {a2 : Int32} {r : Int32} {N : Mm}  (he : f_X10_group M a1 a2 = some (r, N)) : KI X 1 l yX10_group (wz yX10_group cX10_group 5 (some .int)) rm_X10_group [.ref (X.2.2 109), .int a1, .int a2] M r N := by
  intro sz
  refine K_of (Qc := (fun sz => QI X 1 r N sz)) (own := RX10) (lv0 := [(0, .ref (X.2.2 109)), (1, .int a1), (2, .int a2)]) (by decide +kernel) rfl (Nat.le_of_ble_eq_true rfl) rfl (fun p e s m args below meth c S => ?_) sz
  · unfold f_X10_group at he
    refine z_aload_n S dX10_group_0 rfl 0 rfl ?_
    refine z_iload_n S dX10_group_1 rfl 1 rfl ?_
    refine z_iconst (v := 0) S dX10_group_2 (by decide) ?_
    refine z_bipush (v := 9) S dX10_group_3 (by decide) ?_
    refine z_cSI (As := [.int a1, .int 0, .int 9]) S cs_RX10_66 (K_X10_isIn  rfl) ⟨rfl, rfl⟩ ⟨Nat.le_of_ble_eq_true rfl, Nat.le_of_ble_eq_true rfl⟩ ⟨Nat.le_refl _, Nat.le_refl _⟩ rfl rfl (Nat.le_of_ble_eq_true rfl) dX10_group_5 ?_
    refine z_ifb_ne (tgt := 15) S he dX10_group_8 (by decide) (fun he => ?_) (fun he => ?_)
    · refine z_iconst (v := 0) S dX10_group_15 (by decide) ?_
      exact p_X10_group_J16 S  he
    · refine z_iconst (v := 1) S dX10_group_11 (by decide) ?_
      refine z_goto (tgt := 16) S dX10_group_12 (by decide) ?_
      exact p_X10_group_J16 S  he
set_option maxRecDepth 100000 in
set_option maxHeartbeats 4000000 in
theorem K_X10_had {X : Cx} {l : Launch} {M : Mm} {r : Int32} {N : Mm}  (he : f_X10_had M  = some (r, N)) : KI X 1 l yX10_had (wz yX10_had cX10_had 1 (some .int)) rm_X10_had [.ref (X.2.2 109)] M r N := by
  intro sz
  refine K_of (Qc := (fun sz => QI X 1 r N sz)) (own := RX10) (lv0 := [(0, .ref (X.2.2 109))]) (by decide +kernel) rfl (Nat.le_of_ble_eq_true rfl) rfl (fun p e s m args below meth c S => ?_) sz
  · unfold f_X10_had at he
    refine z_aload_n S dX10_had_0 rfl 0 rfl ?_
    refine z_iconst (v := 0) S dX10_had_1 (by decide) ?_
    refine z_putIb S fo_RX10_63p rfl ok_109 rfl rfl he dX10_had_2 (fun M1 he => ?_)
    refine z_aload_n S dX10_had_5 rfl 0 rfl ?_
    obtain ⟨M2, h9, he⟩ := bnd he
    refine z_cVV (As := []) S cv_RX10_288 (K_X10_tomorrow  h9) ok_109 (by decide) (q := (RX10, TX10, 28)) rfl rfl ⟨rfl, rfl⟩ ⟨Nat.le_of_ble_eq_true rfl, Nat.le_of_ble_eq_true rfl⟩ ⟨Nat.le_refl _, Nat.le_refl _⟩ rfl rfl (Nat.le_of_ble_eq_true rfl) dX10_had_6 ?_
    refine z_aload_n S dX10_had_9 rfl 0 rfl ?_
    obtain ⟨r3, h9, he⟩ := bnd he
    refine z_cVI (As := []) S cv_RX10_312 (K_X10_hadNow  h9) ok_109 (by decide) (q := (RX10, TX10, 28)) rfl rfl ⟨rfl, rfl⟩ ⟨Nat.le_of_ble_eq_true rfl, Nat.le_of_ble_eq_true rfl⟩ ⟨Nat.le_refl _, Nat.le_refl _⟩ rfl rfl (Nat.le_of_ble_eq_true rfl) dX10_had_10 ?_
    exact z_iret S (Prod.mk.inj (Option.some.inj he)) dX10_had_13
