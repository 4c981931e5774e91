set_option maxRecDepth 100000 in
set_option maxHeartbeats 4000000 in
theorem p_X4_timesLed_L5 {X : Cx} {p : Program} {l : Launch} {e : Env} {s : State} {m : MethodId} {args : Array Value} {below : List Frame} {meth : Method} {c : Code} (S : SB X 0 p s m args meth c cX4_timesLed 5 (some .int) RX4) {M : Mm} {r : Int32} {v0 : Nat} {v1 : Int32} {v2 : Int32} {v3 : Int32} {v4 : Int32} {x : (Int32 × Int32) ⊕ Int32} (h_v0 : OK 0 v0 4) (he : f_X4_timesLed_L5 M v0 v1 v2 v3 v4 = some x) (hc : ∀ b, x = .inl b → Z X 0 p l e rm_X4_timesLed s m args below meth c 0 0 (MQ below (QI X 0 r M s.heap.size) args s 0 0 (AA X 0 s.heap.size)) 5 M 5 [(0, .ref (X.2.2 v0)), (1, .int v1), (2, .int v2), (3, .int b.1), (4, .int b.2)] []) (hx : ∀ b, x = .inr b → Z X 0 p l e rm_X4_timesLed s m args below meth c 0 0 (MQ below (QI X 0 r M s.heap.size) args s 0 0 (AA X 0 s.heap.size)) 5 M 45 [(3, .int b)] []) : Z X 0 p l e rm_X4_timesLed s m args below meth c 0 0 (MQ below (QI X 0 r M s.heap.size) args s 0 0 (AA X 0 s.heap.size)) 5 M 5 [(0, .ref (X.2.2 v0)), (1, .int v1), (2, .int v2), (3, .int v3), (4, .int v4)] [] := by
  unfold f_X4_timesLed_L5 at he
  refine z_iload S dX4_timesLed_5 4 rfl ?_
  refine z_aload_n S dX4_timesLed_7 rfl 0 rfl ?_
  refine z_cVI (As := []) S cv_RX4_81 (K_X4_logRows h_v0 rfl) h_v0 (by decide) (q := (RX4, TX4, 10)) rfl rfl ⟨rfl, rfl⟩ ⟨Nat.le_of_ble_eq_true rfl, Nat.le_of_ble_eq_true rfl⟩ ⟨Nat.le_refl _, Nat.le_refl _⟩ rfl rfl (Nat.le_of_ble_eq_true rfl) dX4_timesLed_8 ?_
  refine z_icmp_ge (tgt := 45) S he dX4_timesLed_11 (by decide) (fun he => ?_) (fun he => ?_)
  · refine z_lv (ks := [3]) rfl ?_
    exact hx _ (Option.some.inj he).symm
  · refine z_aload_n S dX4_timesLed_14 rfl 0 rfl ?_
    refine z_iload S dX4_timesLed_15 4 rfl ?_
    refine z_iconst (v := 1) S dX4_timesLed_17 (by decide) ?_
    obtain ⟨r1, h9, he⟩ := bnd he
    refine z_cVI (As := [.int v4, .int 1]) S cv_RX4_85 (K_X4_logged h_v0 h9) h_v0 (by decide) (q := (RX4, TX4, 10)) rfl rfl ⟨rfl, rfl⟩ ⟨Nat.le_of_ble_eq_true rfl, Nat.le_of_ble_eq_true rfl⟩ ⟨Nat.le_refl _, Nat.le_refl _⟩ rfl rfl (Nat.le_of_ble_eq_true rfl) dX4_timesLed_18 ?_
    refine z_iload_n S dX4_timesLed_21 rfl 1 rfl ?_
    refine z_icmp_ne (tgt := 39) S he dX4_timesLed_22 (by decide) (fun he => ?_) (fun he => ?_)
    · refine z_iinc (v := (v4 + 1)) (lv' := [(0, .ref (X.2.2 v0)), (1, .int v1), (2, .int v2), (3, .int v3), (4, .int (v4 + 1))]) S [1, 2, 3, 4, 0] 4 dX4_timesLed_39 rfl (by rfl) (by decide) rfl ?_
      refine z_goto (tgt := 5) S dX4_timesLed_42 (by decide) ?_
      refine z_lv (ks := [0, 1, 2, 3, 4]) rfl ?_
      exact hc _ (Option.some.inj he).symm
    · refine z_aload_n S dX4_timesLed_25 rfl 0 rfl ?_
      refine z_iload S dX4_timesLed_26 4 rfl ?_
      refine z_iconst (v := 2) S dX4_timesLed_28 (by decide) ?_
      obtain ⟨r2, h9, he⟩ := bnd he
      refine z_cVI (As := [.int v4, .int 2]) S cv_RX4_85 (K_X4_logged h_v0 h9) h_v0 (by decide) (q := (RX4, TX4, 10)) rfl rfl ⟨rfl, rfl⟩ ⟨Nat.le_of_ble_eq_true rfl, Nat.le_of_ble_eq_true rfl⟩ ⟨Nat.le_refl _, Nat.le_refl _⟩ rfl rfl (Nat.le_of_ble_eq_true rfl) dX4_timesLed_29 ?_
      refine z_iload_n S dX4_timesLed_32 rfl 2 rfl ?_
      refine z_icmp_ne (tgt := 39) S he dX4_timesLed_33 (by decide) (fun he => ?_) (fun he => ?_)
      · refine z_iinc (v := (v4 + 1)) (lv' := [(0, .ref (X.2.2 v0)), (1, .int v1), (2, .int v2), (3, .int v3), (4, .int (v4 + 1))]) S [1, 2, 3, 4, 0] 4 dX4_timesLed_39 rfl (by rfl) (by decide) rfl ?_
        refine z_goto (tgt := 5) S dX4_timesLed_42 (by decide) ?_
        refine z_lv (ks := [0, 1, 2, 3, 4]) rfl ?_
        exact hc _ (Option.some.inj he).symm
      · refine z_iinc (v := (v3 + 1)) (lv' := [(0, .ref (X.2.2 v0)), (1, .int v1), (2, .int v2), (3, .int (v3 + 1)), (4, .int v4)]) S [1, 2, 3, 0, 4] 3 dX4_timesLed_36 rfl (by rfl) (by decide) rfl ?_
        refine z_iinc (v := (v4 + 1)) (lv' := [(0, .ref (X.2.2 v0)), (1, .int v1), (2, .int v2), (3, .int (v3 + 1)), (4, .int (v4 + 1))]) S [1, 2, 3, 4, 0] 4 dX4_timesLed_39 rfl (by rfl) (by decide) rfl ?_
        refine z_goto (tgt := 5) S dX4_timesLed_42 (by decide) ?_
        refine z_lv (ks := [0, 1, 2, 3, 4]) rfl ?_
        exact hc _ (Option.some.inj he).symm
set_option maxRecDepth 100000 in
set_option maxHeartbeats 4000000 in
theorem K_X4_timesLed {X : Cx} {l : Launch} {M : Mm} {a0 : Nat} {a1 : Int32} {a2 : Int32} {r : Int32} (h_a0 : OK 0 a0 4) (he : f_X4_timesLed M a0 a1 a2 = some r) : KI X 0 l yX4_timesLed (wz yX4_timesLed cX4_timesLed 5 (some .int)) rm_X4_timesLed [.ref (X.2.2 a0), .int a1, .int a2] M r M := by
  intro sz
  refine K_of (Qc := (fun sz => QI X 0 r M sz)) (own := RX4) (lv0 := [(0, .ref (X.2.2 a0)), (1, .int a1), (2, .int a2)]) (by decide +kernel) rfl (Nat.le_of_ble_eq_true rfl) rfl (fun p e s m args below meth c S => ?_) sz
  · unfold f_X4_timesLed at he
    refine z_iconst (v := 0) S dX4_timesLed_0 (by decide) ?_
    refine z_istore_n (lv' := [(0, .ref (X.2.2 a0)), (1, .int a1), (2, .int a2), (3, .int 0)]) S [1, 2, 3, 0] dX4_timesLed_1 rfl (by decide) rfl ?_
    refine z_iconst (v := 0) S dX4_timesLed_2 (by decide) ?_
    refine z_istore (lv' := [(0, .ref (X.2.2 a0)), (1, .int a1), (2, .int a2), (3, .int 0), (4, .int 0)]) S [1, 2, 3, 4, 0] dX4_timesLed_3 (by decide) rfl ?_
    obtain ⟨e_3, hl, he⟩ := bnd he
    have hX : Z X 0 p l e rm_X4_timesLed s m args below meth c 0 0 (MQ below (QI X 0 r M s.heap.size) args s 0 0 (AA X 0 s.heap.size)) 5 M 45 [(3, .int e_3)] [] := by
      refine z_iload_n S dX4_timesLed_45 rfl 0 rfl ?_
      exact z_iret S (⟨Option.some.inj he, rfl⟩) dX4_timesLed_46
    exact loopZ (Zh := (fun a_3 => Z X 0 p l e rm_X4_timesLed s m args below meth c 0 0 (MQ below (QI X 0 r M s.heap.size) args s 0 0 (AA X 0 s.heap.size)) 5 M 5 [(0, .ref (X.2.2 a0)), (1, .int a1), (2, .int a2), (3, .int a_3.1), (4, .int a_3.2)] [])) (fun a_3 x hb hc hr => p_X4_timesLed_L5 S h_a0 hb hc (fun b hxe => by rw [hr b hxe]; exact hX)) FU _ hl
set_option maxRecDepth 100000 in
set_option maxHeartbeats 4000000 in
theorem K_X10_logged {X : Cx} {l : Launch} {M : Mm} {a1 : Int32} {a2 : Int32} {r : Int32}  (he : f_X10_logged M a1 a2 = some r) : KI X 1 l yX10_logged (wz yX10_logged cX10_logged 3 (some .int)) rm_X10_logged [.ref (X.2.2 200), .int a1, .int a2] M r M := by
  intro sz
  refine K_of (Qc := (fun sz => QI X 1 r M sz)) (own := RX10) (lv0 := [(0, .ref (X.2.2 200)), (1, .int a1), (2, .int a2)]) (by decide +kernel) rfl (Nat.le_of_ble_eq_true rfl) rfl (fun p e s m args below meth c S => ?_) sz
  · unfold f_X10_logged at he
    refine z_aload_n S dX10_logged_0 rfl 0 rfl ?_
    refine z_getF (j := 201) S fo_RX10_7 1 rfl rfl ok_200 dX10_logged_1 ?_
    refine z_bipush (v := 107) S dX10_logged_4 (by decide) ?_
    refine z_iconst (v := 5) S dX10_logged_6 (by decide) ?_
    refine z_iload_n S dX10_logged_7 rfl 1 rfl ?_
    refine z_imul S dX10_logged_8 ?_
    refine z_iadd S dX10_logged_9 ?_
    refine z_iload_n S dX10_logged_10 rfl 2 rfl ?_
    refine z_iadd S dX10_logged_11 ?_
    refine z_iald S ok_201 rfl he dX10_logged_12 (fun he => ?_)
    exact z_iret S (⟨Option.some.inj he, rfl⟩) dX10_logged_13
set_option maxRecDepth 100000 in
set_option maxHeartbeats 4000000 in
theorem p_X10_rowsOf_J5_49 {X : Cx} {p : Program} {l : Launch} {e : Env} {s : State} {m : MethodId} {args : Array Value} {below : List Frame} {meth : Method} {c : Code} (S : SB X 1 p s m args meth c cX10_rowsOf 5 (some .int) RX10) {M : Mm} {r : Int32} {v1 : Int32} {v2 : Int32} {v4 : Int32} {t0 : Int32} {x : (Int32 × Int32) ⊕ Int32}  (he : f_X10_rowsOf_J5_49 M v1 v2 v4 t0 = some x) (hc : ∀ b, x = .inl b → Z X 1 p l e rm_X10_rowsOf s m args below meth c 0 0 (MQ below (QI X 1 r M s.heap.size) args s 0 0 (AA X 1 s.heap.size)) 5 M 5 [(0, .ref (X.2.2 200)), (1, .int v1), (2, .int v2), (3, .int b.1), (4, .int b.2)] []) (hx : ∀ b, x = .inr b → Z X 1 p l e rm_X10_rowsOf s m args below meth c 0 0 (MQ below (QI X 1 r M s.heap.size) args s 0 0 (AA X 1 s.heap.size)) 5 M 58 [(3, .int b)] []) : Z X 1 p l e rm_X10_rowsOf s m args below meth c 0 0 (MQ below (QI X 1 r M s.heap.size) args s 0 0 (AA X 1 s.heap.size)) 5 M 49 [(0, .ref (X.2.2 200)), (1, .int v1), (2, .int v2), (4, .int v4)] [.int t0] := by
  unfold f_X10_rowsOf_J5_49 at he
  refine z_iconst (v := 0) S dX10_rowsOf_49 (by decide) ?_
  refine z_iadd S dX10_rowsOf_50 ?_
  refine z_istore_n (lv' := [(0, .ref (X.2.2 200)), (1, .int v1), (2, .int v2), (3, .int (t0 + 0)), (4, .int v4)]) S [1, 2, 3, 0, 4] dX10_rowsOf_51 rfl (by decide) rfl ?_
  refine z_iinc (v := (v4 + 1)) (lv' := [(0, .ref (X.2.2 200)), (1, .int v1), (2, .int v2), (3, .int (t0 + 0)), (4, .int (v4 + 1))]) S [1, 2, 3, 4, 0] 4 dX10_rowsOf_52 rfl (by rfl) (by decide) rfl ?_
  refine z_goto (tgt := 5) S dX10_rowsOf_55 (by decide) ?_
  refine z_lv (ks := [0, 1, 2, 3, 4]) rfl ?_
  exact hc _ (Option.some.inj he).symm
set_option maxRecDepth 100000 in
set_option maxHeartbeats 4000000 in
theorem p_X10_rowsOf_J5_45 {X : Cx} {p : Program} {l : Launch} {e : Env} {s : State} {m : MethodId} {args : Array Value} {below : List Frame} {meth : Method} {c : Code} (S : SB X 1 p s m args meth c cX10_rowsOf 5 (some .int) RX10) {M : Mm} {r : Int32} {v1 : Int32} {v2 : Int32} {v4 : Int32} {t0 : Int32} {x : (Int32 × Int32) ⊕ Int32}  (he : f_X10_rowsOf_J5_45 M v1 v2 v4 t0 = some x) (hc : ∀ b, x = .inl b → Z X 1 p l e rm_X10_rowsOf s m args below meth c 0 0 (MQ below (QI X 1 r M s.heap.size) args s 0 0 (AA X 1 s.heap.size)) 5 M 5 [(0, .ref (X.2.2 200)), (1, .int v1), (2, .int v2), (3, .int b.1), (4, .int b.2)] []) (hx : ∀ b, x = .inr b → Z X 1 p l e rm_X10_rowsOf s m args below meth c 0 0 (MQ below (QI X 1 r M s.heap.size) args s 0 0 (AA X 1 s.heap.size)) 5 M 58 [(3, .int b)] []) : Z X 1 p l e rm_X10_rowsOf s m args below meth c 0 0 (MQ below (QI X 1 r M s.heap.size) args s 0 0 (AA X 1 s.heap.size)) 5 M 45 [(0, .ref (X.2.2 200)), (1, .int v1), (2, .int v2), (4, .int v4)] [.int t0] := by
  unfold f_X10_rowsOf_J5_45 at he
  refine z_iconst (v := 1) S dX10_rowsOf_45 (by decide) ?_
  refine z_goto (tgt := 50) S dX10_rowsOf_46 (by decide) ?_
  refine z_iadd S dX10_rowsOf_50 ?_
  refine z_istore_n (lv' := [(0, .ref (X.2.2 200)), (1, .int v1), (2, .int v2), (3, .int (t0 + 1)), (4, .int v4)]) S [1, 2, 3, 0, 4] dX10_rowsOf_51 rfl (by decide) rfl ?_
  refine z_iinc (v := (v4 + 1)) (lv' := [(0, .ref (X.2.2 200)), (1, .int v1), (2, .int v2), (3, .int (t0 + 1)), (4, .int (v4 + 1))]) S [1, 2, 3, 4, 0] 4 dX10_rowsOf_52 rfl (by rfl) (by decide) rfl ?_
  refine z_goto (tgt := 5) S dX10_rowsOf_55 (by decide) ?_
  refine z_lv (ks := [0, 1, 2, 3, 4]) rfl ?_
  exact hc _ (Option.some.inj he).symm
set_option maxRecDepth 100000 in
set_option maxHeartbeats 4000000 in
theorem p_X10_rowsOf_L5 {X : Cx} {p : Program} {l : Launch} {e : Env} {s : State} {m : MethodId} {args : Array Value} {below : List Frame} {meth : Method} {c : Code} (S : SB X 1 p s m args meth c cX10_rowsOf 5 (some .int) RX10) {M : Mm} {r : Int32} {v1 : Int32} {v2 : Int32} {v3 : Int32} {v4 : Int32} {x : (Int32 × Int32) ⊕ Int32}  (he : f_X10_rowsOf_L5 M v1 v2 v3 v4 = some x) (hc : ∀ b, x = .inl b → Z X 1 p l e rm_X10_rowsOf s m args below meth c 0 0 (MQ below (QI X 1 r M s.heap.size) args s 0 0 (AA X 1 s.heap.size)) 5 M 5 [(0, .ref (X.2.2 200)), (1, .int v1), (2, .int v2), (3, .int b.1), (4, .int b.2)] []) (hx : ∀ b, x = .inr b → Z X 1 p l e rm_X10_rowsOf s m args below meth c 0 0 (MQ below (QI X 1 r M s.heap.size) args s 0 0 (AA X 1 s.heap.size)) 5 M 58 [(3, .int b)] []) : Z X 1 p l e rm_X10_rowsOf s m args below meth c 0 0 (MQ below (QI X 1 r M s.heap.size) args s 0 0 (AA X 1 s.heap.size)) 5 M 5 [(0, .ref (X.2.2 200)), (1, .int v1), (2, .int v2), (3, .int v3), (4, .int v4)] [] := by
  unfold f_X10_rowsOf_L5 at he
  refine z_iload S dX10_rowsOf_5 4 rfl ?_
  refine z_aload_n S dX10_rowsOf_7 rfl 0 rfl ?_
  refine z_getF (j := 201) S fo_RX10_7 1 rfl rfl ok_200 dX10_rowsOf_8 ?_
  refine z_bipush (v := 8) S dX10_rowsOf_11 (by decide) ?_
  refine z_iald S ok_201 rfl he dX10_rowsOf_13 (fun he => ?_)
  refine z_icmp_ge (tgt := 58) S he dX10_rowsOf_14 (by decide) (fun he => ?_) (fun he => ?_)
  · refine z_lv (ks := [3]) rfl ?_
    exact hx _ (Option.some.inj he).symm
  · refine z_iload_n S dX10_rowsOf_17 rfl 3 rfl ?_
    refine z_aload_n S dX10_rowsOf_18 rfl 0 rfl ?_
    refine z_iload S dX10_rowsOf_19 4 rfl ?_
    refine z_iconst (v := 2) S dX10_rowsOf_21 (by decide) ?_
    obtain ⟨r1, h9, he⟩ := bnd he
    refine z_cVI (As := [.int v4, .int 2]) S cv_RX10_345 (K_X10_logged  h9) ok_200 (by decide) (q := (RX10, TX10, 28)) rfl rfl ⟨rfl, rfl⟩ ⟨Nat.le_of_ble_eq_true rfl, Nat.le_of_ble_eq_true rfl⟩ ⟨Nat.le_refl _, Nat.le_refl _⟩ rfl rfl (Nat.le_of_ble_eq_true rfl) dX10_rowsOf_22 ?_
    refine z_iload_n S dX10_rowsOf_25 rfl 1 rfl ?_
    refine z_icmp_ne (tgt := 49) S he dX10_rowsOf_26 (by decide) (fun he => ?_) (fun he => ?_)
    · refine z_lv (ks := [0, 1, 2, 4]) rfl ?_
      exact p_X10_rowsOf_J5_49 S  he hc hx
    · refine z_iload_n S dX10_rowsOf_29 rfl 2 rfl ?_
      refine z_iconst (v := (-1)) S dX10_rowsOf_30 (by decide) ?_
      refine z_icmp_eq (tgt := 45) S he dX10_rowsOf_31 (by decide) (fun he => ?_) (fun he => ?_)
      · refine z_lv (ks := [0, 1, 2, 4]) rfl ?_
        exact p_X10_rowsOf_J5_45 S  he hc hx
      · refine z_aload_n S dX10_rowsOf_34 rfl 0 rfl ?_
        refine z_iload S dX10_rowsOf_35 4 rfl ?_
        refine z_iconst (v := 1) S dX10_rowsOf_37 (by decide) ?_
        obtain ⟨r2, h9, he⟩ := bnd he
        refine z_cVI (As := [.int v4, .int 1]) S cv_RX10_345 (K_X10_logged  h9) ok_200 (by decide) (q := (RX10, TX10, 28)) rfl rfl ⟨rfl, rfl⟩ ⟨Nat.le_of_ble_eq_true rfl, Nat.le_of_ble_eq_true rfl⟩ ⟨Nat.le_refl _, Nat.le_refl _⟩ rfl rfl (Nat.le_of_ble_eq_true rfl) dX10_rowsOf_38 ?_
        refine z_iload_n S dX10_rowsOf_41 rfl 2 rfl ?_
        refine z_icmp_ne (tgt := 49) S he dX10_rowsOf_42 (by decide) (fun he => ?_) (fun he => ?_)
        · refine z_lv (ks := [0, 1, 2, 4]) rfl ?_
          exact p_X10_rowsOf_J5_49 S  he hc hx
        · refine z_lv (ks := [0, 1, 2, 4]) rfl ?_
          exact p_X10_rowsOf_J5_45 S  he hc hx
set_option maxRecDepth 100000 in
set_option maxHeartbeats 4000000 in
theorem K_X10_rowsOf {X : Cx} {l : Launch} {M : Mm} {a1 : Int32} {a2 : Int32} {r : Int32}  (he : f_X10_rowsOf M a1 a2 = some r) : KI X 1 l yX10_rowsOf (wz yX10_rowsOf cX10_rowsOf 5 (some .int)) rm_X10_rowsOf [.ref (X.2.2 200), .int a1, .int a2] M r M := by
  intro sz
  refine K_of (Qc := (fun sz => QI X 1 r M sz)) (own := RX10) (lv0 := [(0, .ref (X.2.2 200)), (1, .int a1), (2, .int a2)]) (by decide +kernel) rfl (Nat.le_of_ble_eq_true rfl) rfl (fun p e s m args below meth c S => ?_) sz
  · unfold f_X10_rowsOf at he
    refine z_iconst (v := 0) S dX10_rowsOf_0 (by decide) ?_
    refine z_istore_n (lv' := [(0, .ref (X.2.2 200)), (1, .int a1), (2, .int a2), (3, .int 0)]) S [1, 2, 3, 0] dX10_rowsOf_1 rfl (by decide) rfl ?_
    refine z_iconst (v := 0) S dX10_rowsOf_2 (by decide) ?_
    refine z_istore (lv' := [(0, .ref (X.2.2 200)), (1, .int a1), (2, .int a2), (3, .int 0), (4, .int 0)]) S [1, 2, 3, 4, 0] dX10_rowsOf_3 (by decide) rfl ?_
    obtain ⟨e_3, hl, he⟩ := bnd he
    have hX : Z X 1 p l e rm_X10_rowsOf s m args below meth c 0 0 (MQ below (QI X 1 r M s.heap.size) args s 0 0 (AA X 1 s.heap.size)) 5 M 58 [(3, .int e_3)] [] := by
      refine z_iload_n S dX10_rowsOf_58 rfl 0 rfl ?_
      exact z_iret S (⟨Option.some.inj he, rfl⟩) dX10_rowsOf_59
    exact loopZ (Zh := (fun a_3 => Z X 1 p l e rm_X10_rowsOf s m args below meth c 0 0 (MQ below (QI X 1 r M s.heap.size) args s 0 0 (AA X 1 s.heap.size)) 5 M 5 [(0, .ref (X.2.2 200)), (1, .int a1), (2, .int a2), (3, .int a_3.1), (4, .int a_3.2)] [])) (fun a_3 x hb hc hr => p_X10_rowsOf_L5 S  hb hc (fun b hxe => by rw [hr b hxe]; exact hX)) FU _ hl
set_option maxRecDepth 100000 in
set_option maxHeartbeats 4000000 in
theorem p_X10_led_J42_75 {X : Cx} {p : Program} {l : Launch} {e : Env} {s : State} {m : MethodId} {args : Array Value} {below : List Frame} {meth : Method} {c : Code} (S : SB X 1 p s m args meth c cX10_led 5 (some .int) RX10) {M : Mm} {N : Mm} {r : Int32} {v1 : Int32} {v3 : Int32} {v4 : Int32} {t0 : Int32} {t1 : Int32} {x : (Int32 × Int32) ⊕ Int32}  (he : f_X10_led_J42_75 M v1 v3 v4 t0 t1 = some x) (hc : ∀ b, x = .inl b → Z X 1 p l e rm_X10_led s m args below meth c 0 0 (MQ below (QI X 1 r N s.heap.size) args s 0 0 (AA X 1 s.heap.size)) 5 M 42 [(0, .ref (X.2.2 200)), (1, .int v1), (3, .int b.1), (4, .int b.2)] []) (hx : ∀ b, x = .inr b → Z X 1 p l e rm_X10_led s m args below meth c 0 0 (MQ below (QI X 1 r N s.heap.size) args s 0 0 (AA X 1 s.heap.size)) 5 M 87 [(3, .int b)] []) : Z X 1 p l e rm_X10_led s m args below meth c 0 0 (MQ below (QI X 1 r N s.heap.size) args s 0 0 (AA X 1 s.heap.size)) 5 M 75 [(0, .ref (X.2.2 200)), (1, .int v1), (3, .int v3), (4, .int v4)] [.int t0, .int t1] := by
  unfold f_X10_led_J42_75 at he
  refine z_icmp_le (tgt := 81) S he dX10_led_75 (by decide) (fun he => ?_) (fun he => ?_)
  · refine z_iinc (v := (v4 + 1)) (lv' := [(0, .ref (X.2.2 200)), (1, .int v1), (3, .int v3), (4, .int (v4 + 1))]) S [1, 2, 3, 0] 3 dX10_led_81 rfl (by rfl) (by decide) rfl ?_
    refine z_goto (tgt := 42) S dX10_led_84 (by decide) ?_
    refine z_lv (ks := [0, 1, 2, 3]) rfl ?_
    exact hc _ (Option.some.inj he).symm
  · refine z_iload S dX10_led_78 3 rfl ?_
    refine z_istore_n (lv' := [(0, .ref (X.2.2 200)), (1, .int v1), (3, .int v4), (4, .int v4)]) S [1, 2, 0, 3] dX10_led_80 rfl (by decide) rfl ?_
    refine z_iinc (v := (v4 + 1)) (lv' := [(0, .ref (X.2.2 200)), (1, .int v1), (3, .int v4), (4, .int (v4 + 1))]) S [1, 2, 3, 0] 3 dX10_led_81 rfl (by rfl) (by decide) rfl ?_
    refine z_goto (tgt := 42) S dX10_led_84 (by decide) ?_
    refine z_lv (ks := [0, 1, 2, 3]) rfl ?_
    exact hc _ (Option.some.inj he).symm
set_option maxRecDepth 100000 in
set_option maxHeartbeats 4000000 in
theorem p_X10_led_L42 {X : Cx} {p : Program} {l : Launch} {e : Env} {s : State} {m : MethodId} {args : Array Value} {below : List Frame} {meth : Method} {c : Code} (S : SB X 1 p s m args meth c cX10_led 5 (some .int) RX10) {M : Mm} {N : Mm} {r : Int32} {v1 : Int32} {v3 : Int32} {v4 : Int32} {x : (Int32 × Int32) ⊕ Int32}  (he : f_X10_led_L42 M v1 v3 v4 = some x) (hc : ∀ b, x = .inl b → Z X 1 p l e rm_X10_led s m args below meth c 0 0 (MQ below (QI X 1 r N s.heap.size) args s 0 0 (AA X 1 s.heap.size)) 5 M 42 [(0, .ref (X.2.2 200)), (1, .int v1), (3, .int b.1), (4, .int b.2)] []) (hx : ∀ b, x = .inr b → Z X 1 p l e rm_X10_led s m args below meth c 0 0 (MQ below (QI X 1 r N s.heap.size) args s 0 0 (AA X 1 s.heap.size)) 5 M 87 [(3, .int b)] []) : Z X 1 p l e rm_X10_led s m args below meth c 0 0 (MQ below (QI X 1 r N s.heap.size) args s 0 0 (AA X 1 s.heap.size)) 5 M 42 [(0, .ref (X.2.2 200)), (1, .int v1), (3, .int v3), (4, .int v4)] [] := by
  unfold f_X10_led_L42 at he
  refine z_iload S dX10_led_42 3 rfl ?_
  refine z_aload_n S dX10_led_44 rfl 0 rfl ?_
  refine z_getF (j := 201) S fo_RX10_7 1 rfl rfl ok_200 dX10_led_45 ?_
  refine z_iconst (v := 4) S dX10_led_48 (by decide) ?_
  refine z_iald S ok_201 rfl he dX10_led_49 (fun he => ?_)
  refine z_icmp_ge (tgt := 87) S he dX10_led_50 (by decide) (fun he => ?_) (fun he => ?_)
  · refine z_lv (ks := [2]) rfl ?_
    exact hx _ (Option.some.inj he).symm
  · refine z_aload_n S dX10_led_53 rfl 0 rfl ?_
    refine z_iload_n S dX10_led_54 rfl 1 rfl ?_
    refine z_iload S dX10_led_55 3 rfl ?_
    obtain ⟨r3, h9, he⟩ := bnd he
    refine z_cVI (As := [.int v1, .int v4]) S cv_RX10_348 (K_X10_rowsOf  h9) ok_200 (by decide) (q := (RX10, TX10, 28)) rfl rfl ⟨rfl, rfl⟩ ⟨Nat.le_of_ble_eq_true rfl, Nat.le_of_ble_eq_true rfl⟩ ⟨Nat.le_refl _, Nat.le_refl _⟩ rfl rfl (Nat.le_of_ble_eq_true rfl) dX10_led_57 ?_
    refine z_iload_n S dX10_led_60 rfl 2 rfl ?_
    refine z_iconst (v := (-1)) S dX10_led_61 (by decide) ?_
    refine z_icmp_ne (tgt := 69) S he dX10_led_62 (by decide) (fun he => ?_) (fun he => ?_)
    · refine z_aload_n S dX10_led_69 rfl 0 rfl ?_
      refine z_iload_n S dX10_led_70 rfl 1 rfl ?_
      refine z_iload_n S dX10_led_71 rfl 2 rfl ?_
      obtain ⟨r4, h9, he⟩ := bnd he
      refine z_cVI (As := [.int v1, .int v3]) S cv_RX10_348 (K_X10_rowsOf  h9) ok_200 (by decide) (q := (RX10, TX10, 28)) rfl rfl ⟨rfl, rfl⟩ ⟨Nat.le_of_ble_eq_true rfl, Nat.le_of_ble_eq_true rfl⟩ ⟨Nat.le_refl _, Nat.le_refl _⟩ rfl rfl (Nat.le_of_ble_eq_true rfl) dX10_led_72 ?_
      exact p_X10_led_J42_75 S  he hc hx
    · refine z_iconst (v := 0) S dX10_led_65 (by decide) ?_
      refine z_goto (tgt := 75) S dX10_led_66 (by decide) ?_
      exact p_X10_led_J42_75 S  he hc hx
set_option maxRecDepth 100000 in
set_option maxHeartbeats 4000000 in
theorem p_X10_led_J14 {X : Cx} {p : Program} {l : Launch} {e : Env} {s : State} {m : MethodId} {args : Array Value} {below : List Frame} {meth : Method} {c : Code} (S : SB X 1 p s m args meth c cX10_led 5 (some .int) RX10) {M : Mm} {N : Mm} {r : Int32} {v1 : Int32} {v2 : Int32} {t0 : Int32}  (he : f_X10_led_J14 M v1 v2 t0 = some (r, N)) : Z X 1 p l e rm_X10_led s m args below meth c 0 0 (MQ below (QI X 1 r N s.heap.size) args s 0 0 (AA X 1 s.heap.size)) 5 M 14 [(0, .ref (X.2.2 200)), (1, .int v1), (2, .int v2)] [.int t0, .ref (X.2.2 200)] := by
  unfold f_X10_led_J14 at he
  refine z_putIb S fo_RX10_63p rfl ok_200 rfl rfl he dX10_led_14 (fun M2 he => ?_)
  refine z_aload_n S dX10_led_17 rfl 0 rfl ?_
  refine z_getI S fo_RX10_63 rfl ok_200 dX10_led_18 ?_
  refine z_if_le (tgt := 26) S he dX10_led_21 (by decide) (fun he => ?_) (fun he => ?_)
  · refine z_iload_n S dX10_led_26 rfl 2 rfl ?_
    refine z_if_ne (tgt := 37) S he dX10_led_27 (by decide) (fun he => ?_) (fun he => ?_)
    · refine z_iconst (v := (-1)) S dX10_led_37 (by decide) ?_
      refine z_istore_n (lv' := [(0, .ref (X.2.2 200)), (1, .int v1), (3, .int (-1))]) S [1, 2, 0] dX10_led_38 rfl (by decide) rfl ?_
      refine z_iconst (v := 0) S dX10_led_39 (by decide) ?_
      refine z_istore (lv' := [(0, .ref (X.2.2 200)), (1, .int v1), (3, .int (-1)), (4, .int 0)]) S [1, 2, 3, 0] dX10_led_40 (by decide) rfl ?_
      obtain ⟨e_5, hl, he⟩ := bnd he
      have hX : Z X 1 p l e rm_X10_led s m args below meth c 0 0 (MQ below (QI X 1 r N s.heap.size) args s 0 0 (AA X 1 s.heap.size)) 5 M2 87 [(3, .int e_5)] [] := by
        refine z_iload_n S dX10_led_87 rfl 0 rfl ?_
        exact z_iret S (Prod.mk.inj (Option.some.inj he)) dX10_led_88
      exact loopZ (Zh := (fun a_5 => Z X 1 p l e rm_X10_led s m args below meth c 0 0 (MQ below (QI X 1 r N s.heap.size) args s 0 0 (AA X 1 s.heap.size)) 5 M2 42 [(0, .ref (X.2.2 200)), (1, .int v1), (3, .int a_5.1), (4, .int a_5.2)] [])) (fun a_5 x hb hc hr => p_X10_led_L42 S  hb hc (fun b hxe => by rw [hr b hxe]; exact hX)) FU _ hl
    · refine z_aload_n S dX10_led_30 rfl 0 rfl ?_
      refine z_iload_n S dX10_led_31 rfl 1 rfl ?_
      refine z_iconst (v := (-1)) S dX10_led_32 (by decide) ?_
      obtain ⟨r6, h9, he⟩ := bnd he
      refine z_cVI (As := [.int v1, .int (-1)]) S cv_RX10_348 (K_X10_rowsOf  h9) ok_200 (by decide) (q := (RX10, TX10, 28)) rfl rfl ⟨rfl, rfl⟩ ⟨Nat.le_of_ble_eq_true rfl, Nat.le_of_ble_eq_true rfl⟩ ⟨Nat.le_refl _, Nat.le_refl _⟩ rfl rfl (Nat.le_of_ble_eq_true rfl) dX10_led_33 ?_
      exact z_iret S (Prod.mk.inj (Option.some.inj he)) dX10_led_36
  · refine z_iconst (v := 0) S dX10_led_24 (by decide) ?_
    exact z_iret S (Prod.mk.inj (Option.some.inj he)) dX10_led_25
set_option maxRecDepth 100000 in
set_option maxHeartbeats 4000000 in
theorem K_X10_led {X : Cx} {l : Launch} {M : Mm} {a1 : Int32} {a2 : Int32} {r : Int32} {N : Mm}  (he : f_X10_led M a1 a2 = some (r, N)) : KI X 1 l yX10_led (wz yX10_led cX10_led 5 (some .int)) rm_X10_led [.ref (X.2.2 200), .int a1, .int a2] M r N := by
  intro sz
  refine K_of (Qc := (fun sz => QI X 1 r N sz)) (own := RX10) (lv0 := [(0, .ref (X.2.2 200)), (1, .int a1), (2, .int a2)]) (by decide +kernel) rfl (Nat.le_of_ble_eq_true rfl) rfl (fun p e s m args below meth c S => ?_) sz
  · unfold f_X10_led at he
    refine z_aload_n S dX10_led_0 rfl 0 rfl ?_
    refine z_aload_n S dX10_led_1 rfl 0 rfl ?_
    refine z_iload_n S dX10_led_2 rfl 1 rfl ?_
    obtain ⟨r1, h9, he⟩ := bnd he
    refine z_cVI (As := [.int a1]) S cv_RX10_285 (K_X10_isThing  h9) ok_200 (by decide) (q := (RX10, TX10, 28)) rfl rfl ⟨rfl, rfl⟩ ⟨Nat.le_of_ble_eq_true rfl, Nat.le_of_ble_eq_true rfl⟩ ⟨Nat.le_refl _, Nat.le_refl _⟩ rfl rfl (Nat.le_of_ble_eq_true rfl) dX10_led_3 ?_
    refine z_ifb_ne (tgt := 13) S he dX10_led_6 (by decide) (fun he => ?_) (fun he => ?_)
    · refine z_iconst (v := 0) S dX10_led_13 (by decide) ?_
      exact p_X10_led_J14 S  he
    · refine z_iconst (v := 1) S dX10_led_9 (by decide) ?_
      refine z_goto (tgt := 14) S dX10_led_10 (by decide) ?_
      exact p_X10_led_J14 S  he
set_option maxRecDepth 100000 in
set_option maxHeartbeats 4000000 in
theorem p_X10_log_J15 {X : Cx} {p : Program} {l : Launch} {e : Env} {s : State} {m : MethodId} {args : Array Value} {below : List Frame} {meth : Method} {c : Code} (S : SB X 1 p s m args meth c cX10_log 3 (some .int) RX10) {M : Mm} {N : Mm} {r : Int32} {v1 : Int32} {v2 : Int32} {t0 : Int32}  (he : f_X10_log_J15 M v1 v2 t0 = some (r, N)) : Z X 1 p l e rm_X10_log s m args below meth c 0 0 (MQ below (QI X 1 r N s.heap.size) args s 0 0 (AA X 1 s.heap.size)) 3 M 15 [(0, .ref (X.2.2 200)), (1, .int v1), (2, .int v2)] [.int t0, .ref (X.2.2 200)] := by
  unfold f_X10_log_J15 at he
  refine z_putIb S fo_RX10_63p rfl ok_200 rfl rfl he dX10_log_15 (fun M1 he => ?_)
  refine z_aload_n S dX10_log_18 rfl 0 rfl ?_
  refine z_getI S fo_RX10_63 rfl ok_200 dX10_log_19 ?_
  refine z_if_le (tgt := 27) S he dX10_log_22 (by decide) (fun he => ?_) (fun he => ?_)
  · refine z_iload_n S dX10_log_27 rfl 1 rfl ?_
    refine z_iconst (v := 0) S dX10_log_28 (by decide) ?_
    refine z_aload_n S dX10_log_29 rfl 0 rfl ?_
    refine z_getF (j := 201) S fo_RX10_7 1 rfl rfl ok_200 dX10_log_30 ?_
    refine z_bipush (v := 8) S dX10_log_33 (by decide) ?_
    refine z_iald S ok_201 rfl he dX10_log_35 (fun he => ?_)
    refine z_iconst (v := 1) S dX10_log_36 (by decide) ?_
    refine z_isub S dX10_log_37 ?_
    refine z_cSI (As := [.int v1, .int 0, .int ((gA M1 201 8) - 1)]) S cs_RX10_66 (K_X10_isIn  rfl) ⟨rfl, rfl⟩ ⟨Nat.le_of_ble_eq_true rfl, Nat.le_of_ble_eq_true rfl⟩ ⟨Nat.le_refl _, Nat.le_refl _⟩ rfl rfl (Nat.le_of_ble_eq_true rfl) dX10_log_38 ?_
    refine z_ifb_eq (tgt := 53) S he dX10_log_41 (by decide) (fun he => ?_) (fun he => ?_)
    · refine z_iconst (v := (-1)) S dX10_log_53 (by decide) ?_
      exact z_iret S (Prod.mk.inj (Option.some.inj he)) dX10_log_54
    · refine z_aload_n S dX10_log_44 rfl 0 rfl ?_
      refine z_iload_n S dX10_log_45 rfl 1 rfl ?_
      refine z_iload_n S dX10_log_46 rfl 2 rfl ?_
      obtain ⟨r2, h9, he⟩ := bnd he
      refine z_cVI (As := [.int v1, .int v2]) S cv_RX10_345 (K_X10_logged  h9) ok_200 (by decide) (q := (RX10, TX10, 28)) rfl rfl ⟨rfl, rfl⟩ ⟨Nat.le_of_ble_eq_true rfl, Nat.le_of_ble_eq_true rfl⟩ ⟨Nat.le_refl _, Nat.le_refl _⟩ rfl rfl (Nat.le_of_ble_eq_true rfl) dX10_log_47 ?_
      refine z_goto (tgt := 54) S dX10_log_50 (by decide) ?_
      exact z_iret S (Prod.mk.inj (Option.some.inj he)) dX10_log_54
  · refine z_iconst (v := 0) S dX10_log_25 (by decide) ?_
    exact z_iret S (Prod.mk.inj (Option.some.inj he)) dX10_log_26
set_option maxRecDepth 100000 in
set_option maxHeartbeats 4000000 in
theorem K_X10_log {X : Cx} {l : Launch} {M : Mm} {a1 : Int32} {a2 : Int32} {r : Int32} {N : Mm}  (he : f_X10_log M a1 a2 = some (r, N)) : KI X 1 l yX10_log (wz yX10_log cX10_log 3 (some .int)) rm_X10_log [.ref (X.2.2 200), .int a1, .int a2] M r N := by
  intro sz
  refine K_of (Qc := (fun sz => QI X 1 r N sz)) (own := RX10) (lv0 := [(0, .ref (X.2.2 200)), (1, .int a1), (2, .int a2)]) (by decide +kernel) rfl (Nat.le_of_ble_eq_true rfl) rfl (fun p e s m args below meth c S => ?_) sz
  · unfold f_X10_log at he
    refine z_aload_n S dX10_log_0 rfl 0 rfl ?_
    refine z_iload_n S dX10_log_1 rfl 2 rfl ?_
    refine z_iconst (v := 0) S dX10_log_2 (by decide) ?_
    refine z_iconst (v := 4) S dX10_log_3 (by decide) ?_
    refine z_cSI (As := [.int a2, .int 0, .int 4]) S cs_RX10_66 (K_X10_isIn  rfl) ⟨rfl, rfl⟩ ⟨Nat.le_of_ble_eq_true rfl, Nat.le_of_ble_eq_true rfl⟩ ⟨Nat.le_refl _, Nat.le_refl _⟩ rfl rfl (Nat.le_of_ble_eq_true rfl) dX10_log_4 ?_
    refine z_ifb_ne (tgt := 14) S he dX10_log_7 (by decide) (fun he => ?_) (fun he => ?_)
    · refine z_iconst (v := 0) S dX10_log_14 (by decide) ?_
      exact p_X10_log_J15 S  he
    · refine z_iconst (v := 1) S dX10_log_10 (by decide) ?_
      refine z_goto (tgt := 15) S dX10_log_11 (by decide) ?_
      exact p_X10_log_J15 S  he
set_option maxRecDepth 100000 in
set_option maxHeartbeats 4000000 in
theorem K_X9_seed {X : Cx} {l : Launch} {M : Mm} {a1 : Int32} {r : Int32} {N : Mm}  (he : f_X9_seed M a1 = some (r, N)) : KI X 0 l yX9_seed (wz yX9_seed cX9_seed 3 (some .int)) rm_X9_seed [.ref (X.2.2 1), .int a1] M r N := by
  intro sz
  refine K_of (Qc := (fun sz => QI X 0 r N sz)) (own := RX9) (lv0 := [(0, .ref (X.2.2 1)), (1, .int a1)]) (by decide +kernel) rfl (Nat.le_of_ble_eq_true rfl) rfl (fun p e s m args below meth c S => ?_) sz
  · unfold f_X9_seed at he
    refine z_aload_n S dX9_seed_0 rfl 0 rfl ?_
    refine z_getGb (k2 := 4) S fo_RX9_20 rfl ok_1 (by decide) he dX9_seed_1 (fun q1 hq1 he => ?_)
    refine z_getI S fo_RX9_331 rfl (okk4 hq1) dX9_seed_4 ?_
    refine z_istore_n (lv' := [(0, .ref (X.2.2 1)), (1, .int a1), (2, .int (gI M q1 8))]) S [1, 2, 0] dX9_seed_7 rfl (by decide) rfl ?_
    refine z_aload_n S dX9_seed_8 rfl 0 rfl ?_
    refine z_getGb (k2 := 4) S fo_RX9_20 rfl ok_1 (by decide) he dX9_seed_9 (fun q2 hq2 he => ?_)
    refine z_iload_n S dX9_seed_12 rfl 1 rfl ?_
    refine z_putIb S fo_RX9_331p rfl (okk4 hq2) rfl rfl he dX9_seed_13 (fun M3 he => ?_)
    refine z_iload_n S dX9_seed_16 rfl 2 rfl ?_
    exact z_iret S (Prod.mk.inj (Option.some.inj he)) dX9_seed_17
set_option maxRecDepth 100000 in
set_option maxHeartbeats 4000000 in
theorem K_X10_seed {X : Cx} {l : Launch} {M : Mm} {a1 : Int32} {r : Int32} {N : Mm}  (he : f_X10_seed M a1 = some (r, N)) : KI X 1 l yX10_seed (wz yX10_seed cX10_seed 3 (some .int)) rm_X10_seed [.ref (X.2.2 200), .int a1] M r N := by
  intro sz
  refine K_of (Qc := (fun sz => QI X 1 r N sz)) (own := RX10) (lv0 := [(0, .ref (X.2.2 200)), (1, .int a1)]) (by decide +kernel) rfl (Nat.le_of_ble_eq_true rfl) rfl (fun p e s m args below meth c S => ?_) sz
  · unfold f_X10_seed at he
    refine z_aload_n S dX10_seed_0 rfl 0 rfl ?_
    refine z_iconst (v := 0) S dX10_seed_1 (by decide) ?_
    refine z_putIb S fo_RX10_63p rfl ok_200 rfl rfl he dX10_seed_2 (fun M1 he => ?_)
    refine z_aload_n S dX10_seed_5 rfl 0 rfl ?_
    refine z_getF (j := 201) S fo_RX10_7 1 rfl rfl ok_200 dX10_seed_6 ?_
    refine z_bipush (v := 9) S dX10_seed_9 (by decide) ?_
    refine z_iald S ok_201 rfl he dX10_seed_11 (fun he => ?_)
    refine z_istore_n (lv' := [(0, .ref (X.2.2 200)), (1, .int a1), (2, .int (gA M1 201 9))]) S [1, 2, 0] dX10_seed_12 rfl (by decide) rfl ?_
    refine z_aload_n S dX10_seed_13 rfl 0 rfl ?_
    refine z_getF (j := 201) S fo_RX10_7 1 rfl rfl ok_200 dX10_seed_14 ?_
    refine z_bipush (v := 9) S dX10_seed_17 (by decide) ?_
    refine z_iload_n S dX10_seed_19 rfl 1 rfl ?_
    refine z_iastb S ok_201 rfl he dX10_seed_20 (fun M2 he => ?_)
    refine z_iload_n S dX10_seed_21 rfl 2 rfl ?_
    exact z_iret S (Prod.mk.inj (Option.some.inj he)) dX10_seed_22
set_option maxRecDepth 100000 in
set_option maxHeartbeats 4000000 in
theorem K_X9_undo {X : Cx} {l : Launch} {M : Mm} {r : Bool} {N : Mm}  (he : f_X9_undo M  = some (r, N)) : KI X 0 l yX9_undo (wz yX9_undo cX9_undo 1 (some .boolean)) rm_X9_undo [.ref (X.2.2 1)] M (bI r) N := by
  intro sz
  refine K_of (Qc := (fun sz => QI X 0 (bI r) N sz)) (own := RX9) (lv0 := [(0, .ref (X.2.2 1))]) (by decide +kernel) rfl (Nat.le_of_ble_eq_true rfl) rfl (fun p e s m args below meth c S => ?_) sz
  · unfold f_X9_undo at he
    refine z_aload_n S dX9_undo_0 rfl 0 rfl ?_
    refine z_getI S fo_RX9_129 rfl ok_1 dX9_undo_1 ?_
    refine z_iconst (v := 1) S dX9_undo_4 (by decide) ?_
    refine z_icmp_lt (tgt := 20) S he dX9_undo_5 (by decide) (fun he => ?_) (fun he => ?_)
    · refine z_iconst (v := 0) S dX9_undo_20 (by decide) ?_
      exact z_zret0 S (Prod.mk.inj (Option.some.inj he)) dX9_undo_21
    · refine z_aload_n S dX9_undo_8 rfl 0 rfl ?_
      refine z_getI S fo_RX9_129 rfl ok_1 dX9_undo_9 ?_
      refine z_aload_n S dX9_undo_12 rfl 0 rfl ?_
      refine z_getF (j := 3) S fo_RX9_43 2 rfl rfl ok_1 dX9_undo_13 ?_
      refine z_alen (v := 12) S ok_3 (cel_m ok_3.2.2) rfl rfl rfl dX9_undo_16 ?_
      refine z_icmp_le (tgt := 22) S he dX9_undo_17 (by decide) (fun he => ?_) (fun he => ?_)
      · refine z_aload_n S dX9_undo_22 rfl 0 rfl ?_
        refine z_dup S rfl dX9_undo_23 ?_
        refine z_getI S fo_RX9_129 rfl ok_1 dX9_undo_24 ?_
        refine z_iconst (v := 1) S dX9_undo_27 (by decide) ?_
        refine z_isub S dX9_undo_28 ?_
        refine z_putIb S fo_RX9_129p rfl ok_1 rfl rfl he dX9_undo_29 (fun M1 he => ?_)
        refine z_aload_n S dX9_undo_32 rfl 0 rfl ?_
        refine z_getGb (k2 := 4) S fo_RX9_20 rfl ok_1 (by decide) he dX9_undo_33 (fun q2 hq2 he => ?_)
        refine z_aload_n S dX9_undo_36 rfl 0 rfl ?_
        refine z_getF (j := 3) S fo_RX9_43 2 rfl rfl ok_1 dX9_undo_37 ?_
        refine z_aload_n S dX9_undo_40 rfl 0 rfl ?_
        refine z_getI S fo_RX9_129 rfl ok_1 dX9_undo_41 ?_
        refine z_mald S ok_3 rfl he dX9_undo_44 (fun q3 hq3 he => ?_)
        obtain ⟨M4, h9, he⟩ := bnd he
        refine z_cVV (As := [.ref (X.2.2 q3)]) S cv_RX9_93 (K_X4_copyFrom (okk4 hq2) (okk4 hq3) h9) (okk4 hq2) (by decide) (q := (RX4, TX4, 10)) rfl rfl ⟨rfl, rfl⟩ ⟨Nat.le_of_ble_eq_true rfl, Nat.le_of_ble_eq_true rfl⟩ ⟨Nat.le_refl _, Nat.le_refl _⟩ rfl rfl (Nat.le_of_ble_eq_true rfl) dX9_undo_45 ?_
        refine z_iconst (v := 1) S dX9_undo_48 (by decide) ?_
        exact z_zret1 S (Prod.mk.inj (Option.some.inj he)) dX9_undo_49
      · refine z_iconst (v := 0) S dX9_undo_20 (by decide) ?_
        exact z_zret0 S (Prod.mk.inj (Option.some.inj he)) dX9_undo_21
set_option maxRecDepth 100000 in
set_option maxHeartbeats 4000000 in
theorem p_X10_undo_L26 {X : Cx} {p : Program} {l : Launch} {e : Env} {s : State} {m : MethodId} {args : Array Value} {below : List Frame} {meth : Method} {c : Code} (S : SB X 1 p s m args meth c cX10_undo 2 (some .boolean) RX10) {M : Mm} {N : Mm} {r : Bool} {v1 : Int32} {x : (Mm × Int32) ⊕ Mm}  (he : f_X10_undo_L26 M v1 = some x) (hc : ∀ b, x = .inl b → Z X 1 p l e rm_X10_undo s m args below meth c 0 0 (MQ below (QI X 1 (bI r) N s.heap.size) args s 0 0 (AA X 1 s.heap.size)) 2 b.1 26 [(0, .ref (X.2.2 200)), (1, .int b.2)] []) (hx : ∀ b, x = .inr b → Z X 1 p l e rm_X10_undo s m args below meth c 0 0 (MQ below (QI X 1 (bI r) N s.heap.size) args s 0 0 (AA X 1 s.heap.size)) 2 b 60 [] []) : Z X 1 p l e rm_X10_undo s m args below meth c 0 0 (MQ below (QI X 1 (bI r) N s.heap.size) args s 0 0 (AA X 1 s.heap.size)) 2 M 26 [(0, .ref (X.2.2 200)), (1, .int v1)] [] := by
  unfold f_X10_undo_L26 at he
  refine z_iload_n S dX10_undo_26 rfl 1 rfl ?_
  refine z_sipush (v := 407) S dX10_undo_27 (by decide) ?_
  refine z_icmp_ge (tgt := 60) S he dX10_undo_30 (by decide) (fun he => ?_) (fun he => ?_)
  · refine z_lv (ks := []) rfl ?_
    exact hx _ (Option.some.inj he).symm
  · refine z_aload_n S dX10_undo_33 rfl 0 rfl ?_
    refine z_getF (j := 201) S fo_RX10_7 1 rfl rfl ok_200 dX10_undo_34 ?_
    refine z_iload_n S dX10_undo_37 rfl 1 rfl ?_
    refine z_aload_n S dX10_undo_38 rfl 0 rfl ?_
    refine z_getF (j := 204) S fo_RX10_19 4 rfl rfl ok_200 dX10_undo_39 ?_
    refine z_sipush (v := 407) S dX10_undo_42 (by decide) ?_
    refine z_aload_n S dX10_undo_45 rfl 0 rfl ?_
    refine z_getI S fo_RX10_184 rfl ok_200 dX10_undo_46 ?_
    refine z_imul S dX10_undo_49 ?_
    refine z_iload_n S dX10_undo_50 rfl 1 rfl ?_
    refine z_iadd S dX10_undo_51 ?_
    refine z_iald S ok_204 rfl he dX10_undo_52 (fun he => ?_)
    refine z_iastb S ok_201 rfl he dX10_undo_53 (fun M3 he => ?_)
    refine z_iinc (v := (v1 + 1)) (lv' := [(0, .ref (X.2.2 200)), (1, .int (v1 + 1))]) S [1, 0] 1 dX10_undo_54 rfl (by rfl) (by decide) rfl ?_
    refine z_goto (tgt := 26) S dX10_undo_57 (by decide) ?_
    refine z_lv (ks := [0, 1]) rfl ?_
    exact hc _ (Option.some.inj he).symm
set_option maxRecDepth 100000 in
set_option maxHeartbeats 4000000 in
theorem K_X10_undo {X : Cx} {l : Launch} {M : Mm} {r : Bool} {N : Mm}  (he : f_X10_undo M  = some (r, N)) : KI X 1 l yX10_undo (wz yX10_undo cX10_undo 2 (some .boolean)) rm_X10_undo [.ref (X.2.2 200)] M (bI r) N := by
  intro sz
  refine K_of (Qc := (fun sz => QI X 1 (bI r) N sz)) (own := RX10) (lv0 := [(0, .ref (X.2.2 200))]) (by decide +kernel) rfl (Nat.le_of_ble_eq_true rfl) rfl (fun p e s m args below meth c S => ?_) sz
  · unfold f_X10_undo at he
    refine z_aload_n S dX10_undo_0 rfl 0 rfl ?_
    refine z_iconst (v := 0) S dX10_undo_1 (by decide) ?_
    refine z_putIb S fo_RX10_63p rfl ok_200 rfl rfl he dX10_undo_2 (fun M1 he => ?_)
    refine z_aload_n S dX10_undo_5 rfl 0 rfl ?_
    refine z_getI S fo_RX10_184 rfl ok_200 dX10_undo_6 ?_
    refine z_if_ne (tgt := 14) S he dX10_undo_9 (by decide) (fun he => ?_) (fun he => ?_)
    · refine z_aload_n S dX10_undo_14 rfl 0 rfl ?_
      refine z_dup S rfl dX10_undo_15 ?_
      refine z_getI S fo_RX10_184 rfl ok_200 dX10_undo_16 ?_
      refine z_iconst (v := 1) S dX10_undo_19 (by decide) ?_
      refine z_isub S dX10_undo_20 ?_
      refine z_putIb S fo_RX10_184p rfl ok_200 rfl rfl he dX10_undo_21 (fun M2 he => ?_)
      refine z_iconst (v := 0) S dX10_undo_24 (by decide) ?_
      refine z_istore_n (lv' := [(0, .ref (X.2.2 200)), (1, .int 0)]) S [1, 0] dX10_undo_25 rfl (by decide) rfl ?_
      obtain ⟨e_4, hl, he⟩ := bnd he
      have hX : Z X 1 p l e rm_X10_undo s m args below meth c 0 0 (MQ below (QI X 1 (bI r) N s.heap.size) args s 0 0 (AA X 1 s.heap.size)) 2 e_4 60 [] [] := by
        refine z_iconst (v := 1) S dX10_undo_60 (by decide) ?_
        exact z_zret1 S (Prod.mk.inj (Option.some.inj he)) dX10_undo_61
      exact loopZ (Zh := (fun a_4 => Z X 1 p l e rm_X10_undo s m args below meth c 0 0 (MQ below (QI X 1 (bI r) N s.heap.size) args s 0 0 (AA X 1 s.heap.size)) 2 a_4.1 26 [(0, .ref (X.2.2 200)), (1, .int a_4.2)] [])) (fun a_4 x hb hc hr => p_X10_undo_L26 S  hb hc (fun b hxe => by rw [hr b hxe]; exact hX)) FU _ hl
    · refine z_iconst (v := 0) S dX10_undo_12 (by decide) ?_
      exact z_zret0 S (Prod.mk.inj (Option.some.inj he)) dX10_undo_13
set_option maxRecDepth 100000 in
set_option maxHeartbeats 4000000 in
theorem K_X2_copyFrom {X : Cx} {l : Launch} {M : Mm} {a0 : Nat} {a1 : Nat} {N : Mm} (h_a0 : OK 0 a0 2) (h_a1 : OK 0 a1 2) (he : f_X2_copyFrom M a0 a1 = some N) : KV X 0 l yX2_copyFrom (wz yX2_copyFrom cX2_copyFrom 2 none) rm_X2_copyFrom [.ref (X.2.2 a0), .ref (X.2.2 a1)] M N := by
  intro sz
  refine K_of (Qc := (fun sz => QV X 0 N sz)) (own := RX2) (lv0 := [(0, .ref (X.2.2 a0)), (1, .ref (X.2.2 a1))]) (by decide +kernel) rfl (Nat.le_of_ble_eq_true rfl) rfl (fun p e s m args below meth c S => ?_) sz
  · unfold f_X2_copyFrom at he
    refine z_aload_n S dX2_copyFrom_0 rfl 1 rfl ?_
    refine z_getF (j := (a1 + 1)) S fo_RX2_9 1 rfl rfl h_a1 dX2_copyFrom_1 ?_
    refine z_iconst (v := 0) S dX2_copyFrom_4 (by decide) ?_
    refine z_aload_n S dX2_copyFrom_5 rfl 0 rfl ?_
    refine z_getF (j := (a0 + 1)) S fo_RX2_9 1 rfl rfl h_a0 dX2_copyFrom_6 ?_
    refine z_iconst (v := 0) S dX2_copyFrom_9 (by decide) ?_
    refine z_aload_n S dX2_copyFrom_10 rfl 0 rfl ?_
    refine z_getF (j := (a0 + 1)) S fo_RX2_9 1 rfl rfl h_a0 dX2_copyFrom_11 ?_
    refine z_alen (v := 12) S (okf2_1 h_a0).1 (cel_i (okf2_1 h_a0).1.2.2) rfl (okf2_1 h_a0).2 rfl dX2_copyFrom_14 ?_
    refine z_copyb S ca_RX2_34 (okf2_1 h_a1).1 (okf2_1 h_a0).1 (okf2_1 h_a1).2 (okf2_1 h_a0).2 (by decide) (by decide) (Nat.le_of_ble_eq_true rfl) (Nat.le_of_ble_eq_true rfl) he dX2_copyFrom_15 (fun M1 he => ?_)
    refine z_aload_n S dX2_copyFrom_18 rfl 1 rfl ?_
    refine z_getF (j := (a1 + 2)) S fo_RX2_15 2 rfl rfl h_a1 dX2_copyFrom_19 ?_
    refine z_iconst (v := 0) S dX2_copyFrom_22 (by decide) ?_
    refine z_aload_n S dX2_copyFrom_23 rfl 0 rfl ?_
    refine z_getF (j := (a0 + 2)) S fo_RX2_15 2 rfl rfl h_a0 dX2_copyFrom_24 ?_
    refine z_iconst (v := 0) S dX2_copyFrom_27 (by decide) ?_
    refine z_aload_n S dX2_copyFrom_28 rfl 0 rfl ?_
    refine z_getF (j := (a0 + 2)) S fo_RX2_15 2 rfl rfl h_a0 dX2_copyFrom_29 ?_
    refine z_alen (v := 12) S (okf2_2 h_a0).1 (cel_i (okf2_2 h_a0).1.2.2) rfl (okf2_2 h_a0).2 rfl dX2_copyFrom_32 ?_
    refine z_copyb S ca_RX2_34 (okf2_2 h_a1).1 (okf2_2 h_a0).1 (okf2_2 h_a1).2 (okf2_2 h_a0).2 (by decide) (by decide) (Nat.le_of_ble_eq_true rfl) (Nat.le_of_ble_eq_true rfl) he dX2_copyFrom_33 (fun M2 he => ?_)
    refine z_aload_n S dX2_copyFrom_36 rfl 1 rfl ?_
    refine z_getF (j := (a1 + 3)) S fo_RX2_18 3 rfl rfl h_a1 dX2_copyFrom_37 ?_
    refine z_iconst (v := 0) S dX2_copyFrom_40 (by decide) ?_
    refine z_aload_n S dX2_copyFrom_41 rfl 0 rfl ?_
    refine z_getF (j := (a0 + 3)) S fo_RX2_18 3 rfl rfl h_a0 dX2_copyFrom_42 ?_
    refine z_iconst (v := 0) S dX2_copyFrom_45 (by decide) ?_
    refine z_aload_n S dX2_copyFrom_46 rfl 0 rfl ?_
    refine z_getF (j := (a0 + 3)) S fo_RX2_18 3 rfl rfl h_a0 dX2_copyFrom_47 ?_
    refine z_alen (v := 12) S (okf2_3 h_a0).1 (cel_i (okf2_3 h_a0).1.2.2) rfl (okf2_3 h_a0).2 rfl dX2_copyFrom_50 ?_
    refine z_copyb S ca_RX2_34 (okf2_3 h_a1).1 (okf2_3 h_a0).1 (okf2_3 h_a1).2 (okf2_3 h_a0).2 (by decide) (by decide) (Nat.le_of_ble_eq_true rfl) (Nat.le_of_ble_eq_true rfl) he dX2_copyFrom_51 (fun M3 he => ?_)
    refine z_aload_n S dX2_copyFrom_54 rfl 1 rfl ?_
    refine z_getF (j := (a1 + 4)) S fo_RX2_21 4 rfl rfl h_a1 dX2_copyFrom_55 ?_
    refine z_iconst (v := 0) S dX2_copyFrom_58 (by decide) ?_
    refine z_aload_n S dX2_copyFrom_59 rfl 0 rfl ?_
    refine z_getF (j := (a0 + 4)) S fo_RX2_21 4 rfl rfl h_a0 dX2_copyFrom_60 ?_
    refine z_iconst (v := 0) S dX2_copyFrom_63 (by decide) ?_
    refine z_aload_n S dX2_copyFrom_64 rfl 0 rfl ?_
    refine z_getF (j := (a0 + 4)) S fo_RX2_21 4 rfl rfl h_a0 dX2_copyFrom_65 ?_
    refine z_alen (v := 400) S (okf2_4 h_a0).1 (cel_i (okf2_4 h_a0).1.2.2) rfl (okf2_4 h_a0).2 rfl dX2_copyFrom_68 ?_
    refine z_copyb S ca_RX2_34 (okf2_4 h_a1).1 (okf2_4 h_a0).1 (okf2_4 h_a1).2 (okf2_4 h_a0).2 (by decide) (by decide) (Nat.le_of_ble_eq_true rfl) (Nat.le_of_ble_eq_true rfl) he dX2_copyFrom_69 (fun M4 he => ?_)
    refine z_aload_n S dX2_copyFrom_72 rfl 0 rfl ?_
    refine z_aload_n S dX2_copyFrom_73 rfl 1 rfl ?_
    refine z_getI S fo_RX2_31 rfl h_a1 dX2_copyFrom_74 ?_
    refine z_putIb S fo_RX2_31p rfl h_a0 rfl rfl he dX2_copyFrom_77 (fun M5 he => ?_)
    refine z_aload_n S dX2_copyFrom_80 rfl 0 rfl ?_
    refine z_aload_n S dX2_copyFrom_81 rfl 1 rfl ?_
    refine z_getI S fo_RX2_27 rfl h_a1 dX2_copyFrom_82 ?_
    refine z_putIb S fo_RX2_27p rfl h_a0 rfl rfl he dX2_copyFrom_85 (fun M6 he => ?_)
    exact z_vret S (Option.some.inj he) dX2_copyFrom_88
set_option maxRecDepth 100000 in
set_option maxHeartbeats 4000000 in
theorem K_X9_image {X : Cx} {l : Launch} {M : Mm} {N : Mm}  (he : f_X9_image M  = some N) : KV X 0 l yX9_image (wz yX9_image cX9_image 1 none) rm_X9_image [.ref (X.2.2 1)] M N := by
  intro sz
  refine K_of (Qc := (fun sz => QV X 0 N sz)) (own := RX9) (lv0 := [(0, .ref (X.2.2 1))]) (by decide +kernel) rfl (Nat.le_of_ble_eq_true rfl) rfl (fun p e s m args below meth c S => ?_) sz
  · unfold f_X9_image at he
    refine z_aload_n S dX9_image_0 rfl 0 rfl ?_
    refine z_getF (j := 60) S fo_RX9_37 59 rfl rfl ok_1 dX9_image_1 ?_
    refine z_aload_n S dX9_image_4 rfl 0 rfl ?_
    refine z_getGb (k2 := 4) S fo_RX9_20 rfl ok_1 (by decide) he dX9_image_5 (fun q1 hq1 he => ?_)
    obtain ⟨M2, h9, he⟩ := bnd he
    refine z_cVV (As := [.ref (X.2.2 q1)]) S cv_RX9_93 (K_X4_copyFrom ok_60 (okk4 hq1) h9) ok_60 (by decide) (q := (RX4, TX4, 10)) rfl rfl ⟨rfl, rfl⟩ ⟨Nat.le_of_ble_eq_true rfl, Nat.le_of_ble_eq_true rfl⟩ ⟨Nat.le_refl _, Nat.le_refl _⟩ rfl rfl (Nat.le_of_ble_eq_true rfl) dX9_image_8 ?_
    refine z_aload_n S dX9_image_11 rfl 0 rfl ?_
    refine z_getF (j := 76) S fo_RX9_40 75 rfl rfl ok_1 dX9_image_12 ?_
    refine z_aload_n S dX9_image_15 rfl 0 rfl ?_
    refine z_getGb (k2 := 2) S fo_RX9_30 rfl ok_1 (by decide) he dX9_image_16 (fun q3 hq3 he => ?_)
    obtain ⟨M4, h9, he⟩ := bnd he
    refine z_cVV (As := [.ref (X.2.2 q3)]) S cv_RX9_348 (K_X2_copyFrom ok_76 (okk2 hq3) h9) ok_76 (by decide) (q := (RX2, TX2, 7)) rfl rfl ⟨rfl, rfl⟩ ⟨Nat.le_of_ble_eq_true rfl, Nat.le_of_ble_eq_true rfl⟩ ⟨Nat.le_refl _, Nat.le_refl _⟩ rfl rfl (Nat.le_of_ble_eq_true rfl) dX9_image_19 ?_
    refine z_aload_n S dX9_image_22 rfl 0 rfl ?_
    refine z_iconst (v := 1) S dX9_image_23 (by decide) ?_
    refine z_putIb S fo_RX9_351p rfl ok_1 rfl rfl he dX9_image_24 (fun M5 he => ?_)
    exact z_vret S (Option.some.inj he) dX9_image_27
set_option maxRecDepth 100000 in
set_option maxHeartbeats 4000000 in
theorem p_X10_image_L7 {X : Cx} {p : Program} {l : Launch} {e : Env} {s : State} {m : MethodId} {args : Array Value} {below : List Frame} {meth : Method} {c : Code} (S : SB X 1 p s m args meth c cX10_image 2 none RX10) {M : Mm} {N : Mm} {v1 : Int32} {x : (Mm × Int32) ⊕ Mm}  (he : f_X10_image_L7 M v1 = some x) (hc : ∀ b, x = .inl b → Z X 1 p l e rm_X10_image s m args below meth c 0 0 (MQ below (QV X 1 N s.heap.size) args s 0 0 (AA X 1 s.heap.size)) 2 b.1 7 [(0, .ref (X.2.2 200)), (1, .int b.2)] []) (hx : ∀ b, x = .inr b → Z X 1 p l e rm_X10_image s m args below meth c 0 0 (MQ below (QV X 1 N s.heap.size) args s 0 0 (AA X 1 s.heap.size)) 2 b 32 [(0, .ref (X.2.2 200))] []) : Z X 1 p l e rm_X10_image s m args below meth c 0 0 (MQ below (QV X 1 N s.heap.size) args s 0 0 (AA X 1 s.heap.size)) 2 M 7 [(0, .ref (X.2.2 200)), (1, .int v1)] [] := by
  unfold f_X10_image_L7 at he
  refine z_iload_n S dX10_image_7 rfl 1 rfl ?_
  refine z_sipush (v := 807) S dX10_image_8 (by decide) ?_
  refine z_icmp_ge (tgt := 32) S he dX10_image_11 (by decide) (fun he => ?_) (fun he => ?_)
  · refine z_lv (ks := [0]) rfl ?_
    exact hx _ (Option.some.inj he).symm
  · refine z_aload_n S dX10_image_14 rfl 0 rfl ?_
    refine z_getF (j := 202) S fo_RX10_13 2 rfl rfl ok_200 dX10_image_15 ?_
    refine z_iload_n S dX10_image_18 rfl 1 rfl ?_
    refine z_aload_n S dX10_image_19 rfl 0 rfl ?_
    refine z_getF (j := 201) S fo_RX10_7 1 rfl rfl ok_200 dX10_image_20 ?_
    refine z_iload_n S dX10_image_23 rfl 1 rfl ?_
    refine z_iald S ok_201 rfl he dX10_image_24 (fun he => ?_)
    refine z_iastb S ok_202 rfl he dX10_image_25 (fun M2 he => ?_)
    refine z_iinc (v := (v1 + 1)) (lv' := [(0, .ref (X.2.2 200)), (1, .int (v1 + 1))]) S [1, 0] 1 dX10_image_26 rfl (by rfl) (by decide) rfl ?_
    refine z_goto (tgt := 7) S dX10_image_29 (by decide) ?_
    refine z_lv (ks := [0, 1]) rfl ?_
    exact hc _ (Option.some.inj he).symm
set_option maxRecDepth 100000 in
set_option maxHeartbeats 4000000 in
theorem K_X10_image {X : Cx} {l : Launch} {M : Mm} {N : Mm}  (he : f_X10_image M  = some N) : KV X 1 l yX10_image (wz yX10_image cX10_image 2 none) rm_X10_image [.ref (X.2.2 200)] M N := by
  intro sz
  refine K_of (Qc := (fun sz => QV X 1 N sz)) (own := RX10) (lv0 := [(0, .ref (X.2.2 200))]) (by decide +kernel) rfl (Nat.le_of_ble_eq_true rfl) rfl (fun p e s m args below meth c S => ?_) sz
  · unfold f_X10_image at he
    refine z_aload_n S dX10_image_0 rfl 0 rfl ?_
    refine z_iconst (v := 0) S dX10_image_1 (by decide) ?_
    refine z_putIb S fo_RX10_63p rfl ok_200 rfl rfl he dX10_image_2 (fun M1 he => ?_)
    refine z_iconst (v := 0) S dX10_image_5 (by decide) ?_
    refine z_istore_n (lv' := [(0, .ref (X.2.2 200)), (1, .int 0)]) S [1, 0] dX10_image_6 rfl (by decide) rfl ?_
    obtain ⟨e_3, hl, he⟩ := bnd he
    have hX : Z X 1 p l e rm_X10_image s m args below meth c 0 0 (MQ below (QV X 1 N s.heap.size) args s 0 0 (AA X 1 s.heap.size)) 2 e_3 32 [(0, .ref (X.2.2 200))] [] := by
      refine z_aload_n S dX10_image_32 rfl 0 rfl ?_
      refine z_iconst (v := 1) S dX10_image_33 (by decide) ?_
      refine z_putIb S fo_RX10_351p rfl ok_200 rfl rfl he dX10_image_34 (fun M4 he => ?_)
      exact z_vret S (Option.some.inj he) dX10_image_37
    exact loopZ (Zh := (fun a_3 => Z X 1 p l e rm_X10_image s m args below meth c 0 0 (MQ below (QV X 1 N s.heap.size) args s 0 0 (AA X 1 s.heap.size)) 2 a_3.1 7 [(0, .ref (X.2.2 200)), (1, .int a_3.2)] [])) (fun a_3 x hb hc hr => p_X10_image_L7 S  hb hc (fun b hxe => by rw [hr b hxe]; exact hX)) FU _ hl
set_option maxRecDepth 100000 in
set_option maxHeartbeats 4000000 in
theorem K_X9_back {X : Cx} {l : Launch} {M : Mm} {r : Bool} {N : Mm}  (he : f_X9_back M  = some (r, N)) : KI X 0 l yX9_back (wz yX9_back cX9_back 1 (some .boolean)) rm_X9_back [.ref (X.2.2 1)] M (bI r) N := by
  intro sz
  refine K_of (Qc := (fun sz => QI X 0 (bI r) N sz)) (own := RX9) (lv0 := [(0, .ref (X.2.2 1))]) (by decide +kernel) rfl (Nat.le_of_ble_eq_true rfl) rfl (fun p e s m args below meth c S => ?_) sz
  · unfold f_X9_back at he
    refine z_aload_n S dX9_back_0 rfl 0 rfl ?_
    refine z_getI S fo_RX9_351 rfl ok_1 dX9_back_1 ?_
    refine z_if_ne (tgt := 9) S he dX9_back_4 (by decide) (fun he => ?_) (fun he => ?_)
    · refine z_aload_n S dX9_back_9 rfl 0 rfl ?_
      refine z_getGb (k2 := 4) S fo_RX9_20 rfl ok_1 (by decide) he dX9_back_10 (fun q1 hq1 he => ?_)
      refine z_aload_n S dX9_back_13 rfl 0 rfl ?_
      refine z_getF (j := 60) S fo_RX9_37 59 rfl rfl ok_1 dX9_back_14 ?_
      obtain ⟨M2, h9, he⟩ := bnd he
      refine z_cVV (As := [.ref (X.2.2 60)]) S cv_RX9_93 (K_X4_copyFrom (okk4 hq1) ok_60 h9) (okk4 hq1) (by decide) (q := (RX4, TX4, 10)) rfl rfl ⟨rfl, rfl⟩ ⟨Nat.le_of_ble_eq_true rfl, Nat.le_of_ble_eq_true rfl⟩ ⟨Nat.le_refl _, Nat.le_refl _⟩ rfl rfl (Nat.le_of_ble_eq_true rfl) dX9_back_17 ?_
      refine z_aload_n S dX9_back_20 rfl 0 rfl ?_
      refine z_getGb (k2 := 2) S fo_RX9_30 rfl ok_1 (by decide) he dX9_back_21 (fun q3 hq3 he => ?_)
      refine z_aload_n S dX9_back_24 rfl 0 rfl ?_
      refine z_getF (j := 76) S fo_RX9_40 75 rfl rfl ok_1 dX9_back_25 ?_
      obtain ⟨M4, h9, he⟩ := bnd he
      refine z_cVV (As := [.ref (X.2.2 76)]) S cv_RX9_348 (K_X2_copyFrom (okk2 hq3) ok_76 h9) (okk2 hq3) (by decide) (q := (RX2, TX2, 7)) rfl rfl ⟨rfl, rfl⟩ ⟨Nat.le_of_ble_eq_true rfl, Nat.le_of_ble_eq_true rfl⟩ ⟨Nat.le_refl _, Nat.le_refl _⟩ rfl rfl (Nat.le_of_ble_eq_true rfl) dX9_back_28 ?_
      refine z_aload_n S dX9_back_31 rfl 0 rfl ?_
      refine z_iconst (v := 0) S dX9_back_32 (by decide) ?_
      refine z_putIb S fo_RX9_129p rfl ok_1 rfl rfl he dX9_back_33 (fun M5 he => ?_)
      refine z_iconst (v := 1) S dX9_back_36 (by decide) ?_
      exact z_zret1 S (Prod.mk.inj (Option.some.inj he)) dX9_back_37
    · refine z_iconst (v := 0) S dX9_back_7 (by decide) ?_
      exact z_zret0 S (Prod.mk.inj (Option.some.inj he)) dX9_back_8
set_option maxRecDepth 100000 in
set_option maxHeartbeats 4000000 in
theorem p_X10_back_L16 {X : Cx} {p : Program} {l : Launch} {e : Env} {s : State} {m : MethodId} {args : Array Value} {below : List Frame} {meth : Method} {c : Code} (S : SB X 1 p s m args meth c cX10_back 2 (some .boolean) RX10) {M : Mm} {N : Mm} {r : Bool} {v1 : Int32} {x : (Mm × Int32) ⊕ Mm}  (he : f_X10_back_L16 M v1 = some x) (hc : ∀ b, x = .inl b → Z X 1 p l e rm_X10_back s m args below meth c 0 0 (MQ below (QI X 1 (bI r) N s.heap.size) args s 0 0 (AA X 1 s.heap.size)) 2 b.1 16 [(0, .ref (X.2.2 200)), (1, .int b.2)] []) (hx : ∀ b, x = .inr b → Z X 1 p l e rm_X10_back s m args below meth c 0 0 (MQ below (QI X 1 (bI r) N s.heap.size) args s 0 0 (AA X 1 s.heap.size)) 2 b 41 [(0, .ref (X.2.2 200))] []) : Z X 1 p l e rm_X10_back s m args below meth c 0 0 (MQ below (QI X 1 (bI r) N s.heap.size) args s 0 0 (AA X 1 s.heap.size)) 2 M 16 [(0, .ref (X.2.2 200)), (1, .int v1)] [] := by
  unfold f_X10_back_L16 at he
  refine z_iload_n S dX10_back_16 rfl 1 rfl ?_
  refine z_sipush (v := 807) S dX10_back_17 (by decide) ?_
  refine z_icmp_ge (tgt := 41) S he dX10_back_20 (by decide) (fun he => ?_) (fun he => ?_)
  · refine z_lv (ks := [0]) rfl ?_
    exact hx _ (Option.some.inj he).symm
  · refine z_aload_n S dX10_back_23 rfl 0 rfl ?_
    refine z_getF (j := 201) S fo_RX10_7 1 rfl rfl ok_200 dX10_back_24 ?_
    refine z_iload_n S dX10_back_27 rfl 1 rfl ?_
    refine z_aload_n S dX10_back_28 rfl 0 rfl ?_
    refine z_getF (j := 202) S fo_RX10_13 2 rfl rfl ok_200 dX10_back_29 ?_
    refine z_iload_n S dX10_back_32 rfl 1 rfl ?_
    refine z_iald S ok_202 rfl he dX10_back_33 (fun he => ?_)
    refine z_iastb S ok_201 rfl he dX10_back_34 (fun M2 he => ?_)
    refine z_iinc (v := (v1 + 1)) (lv' := [(0, .ref (X.2.2 200)), (1, .int (v1 + 1))]) S [1, 0] 1 dX10_back_35 rfl (by rfl) (by decide) rfl ?_
    refine z_goto (tgt := 16) S dX10_back_38 (by decide) ?_
    refine z_lv (ks := [0, 1]) rfl ?_
    exact hc _ (Option.some.inj he).symm
set_option maxRecDepth 100000 in
set_option maxHeartbeats 4000000 in
theorem K_X10_back {X : Cx} {l : Launch} {M : Mm} {r : Bool} {N : Mm}  (he : f_X10_back M  = some (r, N)) : KI X 1 l yX10_back (wz yX10_back cX10_back 2 (some .boolean)) rm_X10_back [.ref (X.2.2 200)] M (bI r) N := by
  intro sz
  refine K_of (Qc := (fun sz => QI X 1 (bI r) N sz)) (own := RX10) (lv0 := [(0, .ref (X.2.2 200))]) (by decide +kernel) rfl (Nat.le_of_ble_eq_true rfl) rfl (fun p e s m args below meth c S => ?_) sz
  · unfold f_X10_back at he
    refine z_aload_n S dX10_back_0 rfl 0 rfl ?_
    refine z_iconst (v := 0) S dX10_back_1 (by decide) ?_
    refine z_putIb S fo_RX10_63p rfl ok_200 rfl rfl he dX10_back_2 (fun M1 he => ?_)
    refine z_aload_n S dX10_back_5 rfl 0 rfl ?_
    refine z_getI S fo_RX10_351 rfl ok_200 dX10_back_6 ?_
    refine z_if_ne (tgt := 14) S he dX10_back_9 (by decide) (fun he => ?_) (fun he => ?_)
    · refine z_iconst (v := 0) S dX10_back_14 (by decide) ?_
      refine z_istore_n (lv' := [(0, .ref (X.2.2 200)), (1, .int 0)]) S [1, 0] dX10_back_15 rfl (by decide) rfl ?_
      obtain ⟨e_3, hl, he⟩ := bnd he
      have hX : Z X 1 p l e rm_X10_back s m args below meth c 0 0 (MQ below (QI X 1 (bI r) N s.heap.size) args s 0 0 (AA X 1 s.heap.size)) 2 e_3 41 [(0, .ref (X.2.2 200))] [] := by
        refine z_aload_n S dX10_back_41 rfl 0 rfl ?_
        refine z_iconst (v := 0) S dX10_back_42 (by decide) ?_
        refine z_putIb S fo_RX10_184p rfl ok_200 rfl rfl he dX10_back_43 (fun M4 he => ?_)
        refine z_iconst (v := 1) S dX10_back_46 (by decide) ?_
        exact z_zret1 S (Prod.mk.inj (Option.some.inj he)) dX10_back_47
      exact loopZ (Zh := (fun a_3 => Z X 1 p l e rm_X10_back s m args below meth c 0 0 (MQ below (QI X 1 (bI r) N s.heap.size) args s 0 0 (AA X 1 s.heap.size)) 2 a_3.1 16 [(0, .ref (X.2.2 200)), (1, .int a_3.2)] [])) (fun a_3 x hb hc hr => p_X10_back_L16 S  hb hc (fun b hxe => by rw [hr b hxe]; exact hX)) FU _ hl
    · refine z_iconst (v := 0) S dX10_back_12 (by decide) ?_
      exact z_zret0 S (Prod.mk.inj (Option.some.inj he)) dX10_back_13
set_option maxRecDepth 100000 in
set_option maxHeartbeats 4000000 in
theorem p_X4_shownThings_L4 {X : Cx} {p : Program} {l : Launch} {e : Env} {s : State} {m : MethodId} {args : Array Value} {below : List Frame} {meth : Method} {c : Code} (S : SB X 0 p s m args meth c cX4_shownThings 3 (some .int) RX4) {M : Mm} {r : Int32} {v0 : Nat} {v1 : Int32} {v2 : Int32} {x : (Int32 × Int32) ⊕ Int32} (h_v0 : OK 0 v0 4) (he : f_X4_shownThings_L4 M v0 v1 v2 = some x) (hc : ∀ b, x = .inl b → Z X 0 p l e rm_X4_shownThings s m args below meth c 0 0 (MQ below (QI X 0 r M s.heap.size) args s 0 0 (AA X 0 s.heap.size)) 3 M 4 [(0, .ref (X.2.2 v0)), (1, .int b.1), (2, .int b.2)] []) (hx : ∀ b, x = .inr b → Z X 0 p l e rm_X4_shownThings s m args below meth c 0 0 (MQ below (QI X 0 r M s.heap.size) args s 0 0 (AA X 0 s.heap.size)) 3 M 29 [(1, .int b)] []) : Z X 0 p l e rm_X4_shownThings s m args below meth c 0 0 (MQ below (QI X 0 r M s.heap.size) args s 0 0 (AA X 0 s.heap.size)) 3 M 4 [(0, .ref (X.2.2 v0)), (1, .int v1), (2, .int v2)] [] := by
  unfold f_X4_shownThings_L4 at he
  refine z_iload_n S dX4_shownThings_4 rfl 2 rfl ?_
  refine z_aload_n S dX4_shownThings_5 rfl 0 rfl ?_
  refine z_getI S fo_RX4_34 rfl h_v0 dX4_shownThings_6 ?_
  refine z_icmp_ge (tgt := 29) S he dX4_shownThings_9 (by decide) (fun he => ?_) (fun he => ?_)
  · refine z_lv (ks := [1]) rfl ?_
    exact hx _ (Option.some.inj he).symm
  · refine z_iload_n S dX4_shownThings_12 rfl 1 rfl ?_
    refine z_aload_n S dX4_shownThings_13 rfl 0 rfl ?_
    refine z_iload_n S dX4_shownThings_14 rfl 2 rfl ?_
    refine z_iconst (v := 3) S dX4_shownThings_15 (by decide) ?_
    obtain ⟨r1, h9, he⟩ := bnd he
    refine z_cVI (As := [.int v2, .int 3]) S cv_RX4_57 (K_X4_ofThing h_v0 h9) h_v0 (by decide) (q := (RX4, TX4, 10)) rfl rfl ⟨rfl, rfl⟩ ⟨Nat.le_of_ble_eq_true rfl, Nat.le_of_ble_eq_true rfl⟩ ⟨Nat.le_refl _, Nat.le_refl _⟩ rfl rfl (Nat.le_of_ble_eq_true rfl) dX4_shownThings_16 ?_
    refine z_iload_n S dX4_shownThings_19 rfl 2 rfl ?_
    refine z_ishl S dX4_shownThings_20 ?_
    refine z_ior S dX4_shownThings_21 ?_
    obtain ⟨x2, ex2, he⟩ := bnd he
    rw [Option.some.inj ex2]
    refine z_istore_n (lv' := [(0, .ref (X.2.2 v0)), (1, .int x2), (2, .int v2)]) S [1, 0, 2] dX4_shownThings_22 rfl (by decide) rfl ?_
    refine z_iinc (v := (v2 + 1)) (lv' := [(0, .ref (X.2.2 v0)), (1, .int x2), (2, .int (v2 + 1))]) S [1, 2, 0] 2 dX4_shownThings_23 rfl (by rfl) (by decide) rfl ?_
    refine z_goto (tgt := 4) S dX4_shownThings_26 (by decide) ?_
    refine z_lv (ks := [0, 1, 2]) rfl ?_
    exact hc _ (Option.some.inj he).symm
set_option maxRecDepth 100000 in
set_option maxHeartbeats 4000000 in
theorem K_X4_shownThings {X : Cx} {l : Launch} {M : Mm} {a0 : Nat} {r : Int32} (h_a0 : OK 0 a0 4) (he : f_X4_shownThings M a0 = some r) : KI X 0 l yX4_shownThings (wz yX4_shownThings cX4_shownThings 3 (some .int)) rm_X4_shownThings [.ref (X.2.2 a0)] M r M := by
  intro sz
  refine K_of (Qc := (fun sz => QI X 0 r M sz)) (own := RX4) (lv0 := [(0, .ref (X.2.2 a0))]) (by decide +kernel) rfl (Nat.le_of_ble_eq_true rfl) rfl (fun p e s m args below meth c S => ?_) sz
  · unfold f_X4_shownThings at he
    refine z_iconst (v := 0) S dX4_shownThings_0 (by decide) ?_
    refine z_istore_n (lv' := [(0, .ref (X.2.2 a0)), (1, .int 0)]) S [1, 0] dX4_shownThings_1 rfl (by decide) rfl ?_
    refine z_iconst (v := 0) S dX4_shownThings_2 (by decide) ?_
    refine z_istore_n (lv' := [(0, .ref (X.2.2 a0)), (1, .int 0), (2, .int 0)]) S [1, 2, 0] dX4_shownThings_3 rfl (by decide) rfl ?_
    obtain ⟨e_3, hl, he⟩ := bnd he
    have hX : Z X 0 p l e rm_X4_shownThings s m args below meth c 0 0 (MQ below (QI X 0 r M s.heap.size) args s 0 0 (AA X 0 s.heap.size)) 3 M 29 [(1, .int e_3)] [] := by
      refine z_iload_n S dX4_shownThings_29 rfl 0 rfl ?_
      exact z_iret S (⟨Option.some.inj he, rfl⟩) dX4_shownThings_30
    exact loopZ (Zh := (fun a_3 => Z X 0 p l e rm_X4_shownThings s m args below meth c 0 0 (MQ below (QI X 0 r M s.heap.size) args s 0 0 (AA X 0 s.heap.size)) 3 M 4 [(0, .ref (X.2.2 a0)), (1, .int a_3.1), (2, .int a_3.2)] [])) (fun a_3 x hb hc hr => p_X4_shownThings_L4 S h_a0 hb hc (fun b hxe => by rw [hr b hxe]; exact hX)) FU _ hl
set_option maxRecDepth 100000 in
set_option maxHeartbeats 4000000 in
theorem p_X4_sumOfThings_L4 {X : Cx} {p : Program} {l : Launch} {e : Env} {s : State} {m : MethodId} {args : Array Value} {below : List Frame} {meth : Method} {c : Code} (S : SB X 0 p s m args meth c cX4_sumOfThings 4 (some .int) RX4) {M : Mm} {r : Int32} {v0 : Nat} {v1 : Int32} {v2 : Int32} {v3 : Int32} {x : (Int32 × Int32) ⊕ Int32} (h_v0 : OK 0 v0 4) (he : f_X4_sumOfThings_L4 M v0 v1 v2 v3 = some x) (hc : ∀ b, x = .inl b → Z X 0 p l e rm_X4_sumOfThings s m args below meth c 0 0 (MQ below (QI X 0 r M s.heap.size) args s 0 0 (AA X 0 s.heap.size)) 4 M 4 [(0, .ref (X.2.2 v0)), (1, .int v1), (2, .int b.1), (3, .int b.2)] []) (hx : ∀ b, x = .inr b → Z X 0 p l e rm_X4_sumOfThings s m args below meth c 0 0 (MQ below (QI X 0 r M s.heap.size) args s 0 0 (AA X 0 s.heap.size)) 4 M 27 [(2, .int b)] []) : Z X 0 p l e rm_X4_sumOfThings s m args below meth c 0 0 (MQ below (QI X 0 r M s.heap.size) args s 0 0 (AA X 0 s.heap.size)) 4 M 4 [(0, .ref (X.2.2 v0)), (1, .int v1), (2, .int v2), (3, .int v3)] [] := by
  unfold f_X4_sumOfThings_L4 at he
  refine z_iload_n S dX4_sumOfThings_4 rfl 3 rfl ?_
  refine z_aload_n S dX4_sumOfThings_5 rfl 0 rfl ?_
  refine z_getI S fo_RX4_34 rfl h_v0 dX4_sumOfThings_6 ?_
  refine z_icmp_ge (tgt := 27) S he dX4_sumOfThings_9 (by decide) (fun he => ?_) (fun he => ?_)
  · refine z_lv (ks := [2]) rfl ?_
    exact hx _ (Option.some.inj he).symm
  · refine z_iload_n S dX4_sumOfThings_12 rfl 2 rfl ?_
    refine z_aload_n S dX4_sumOfThings_13 rfl 0 rfl ?_
    refine z_iload_n S dX4_sumOfThings_14 rfl 3 rfl ?_
    refine z_iload_n S dX4_sumOfThings_15 rfl 1 rfl ?_
    obtain ⟨r1, h9, he⟩ := bnd he
    refine z_cVI (As := [.int v3, .int v1]) S cv_RX4_57 (K_X4_ofThing h_v0 h9) h_v0 (by decide) (q := (RX4, TX4, 10)) rfl rfl ⟨rfl, rfl⟩ ⟨Nat.le_of_ble_eq_true rfl, Nat.le_of_ble_eq_true rfl⟩ ⟨Nat.le_refl _, Nat.le_refl _⟩ rfl rfl (Nat.le_of_ble_eq_true rfl) dX4_sumOfThings_16 ?_
    refine z_iadd S dX4_sumOfThings_19 ?_
    refine z_istore_n (lv' := [(0, .ref (X.2.2 v0)), (1, .int v1), (2, .int (v2 + r1)), (3, .int v3)]) S [1, 2, 0, 3] dX4_sumOfThings_20 rfl (by decide) rfl ?_
    refine z_iinc (v := (v3 + 1)) (lv' := [(0, .ref (X.2.2 v0)), (1, .int v1), (2, .int (v2 + r1)), (3, .int (v3 + 1))]) S [1, 2, 3, 0] 3 dX4_sumOfThings_21 rfl (by rfl) (by decide) rfl ?_
    refine z_goto (tgt := 4) S dX4_sumOfThings_24 (by decide) ?_
    refine z_lv (ks := [0, 1, 2, 3]) rfl ?_
    exact hc _ (Option.some.inj he).symm
set_option maxRecDepth 100000 in
set_option maxHeartbeats 4000000 in
theorem K_X4_sumOfThings {X : Cx} {l : Launch} {M : Mm} {a0 : Nat} {a1 : Int32} {r : Int32} (h_a0 : OK 0 a0 4) (he : f_X4_sumOfThings M a0 a1 = some r) : KI X 0 l yX4_sumOfThings (wz yX4_sumOfThings cX4_sumOfThings 4 (some .int)) rm_X4_sumOfThings [.ref (X.2.2 a0), .int a1] M r M := by
  intro sz
  refine K_of (Qc := (fun sz => QI X 0 r M sz)) (own := RX4) (lv0 := [(0, .ref (X.2.2 a0)), (1, .int a1)]) (by decide +kernel) rfl (Nat.le_of_ble_eq_true rfl) rfl (fun p e s m args below meth c S => ?_) sz
  · unfold f_X4_sumOfThings at he
    refine z_iconst (v := 0) S dX4_sumOfThings_0 (by decide) ?_
    refine z_istore_n (lv' := [(0, .ref (X.2.2 a0)), (1, .int a1), (2, .int 0)]) S [1, 2, 0] dX4_sumOfThings_1 rfl (by decide) rfl ?_
    refine z_iconst (v := 0) S dX4_sumOfThings_2 (by decide) ?_
    refine z_istore_n (lv' := [(0, .ref (X.2.2 a0)), (1, .int a1), (2, .int 0), (3, .int 0)]) S [1, 2, 3, 0] dX4_sumOfThings_3 rfl (by decide) rfl ?_
    obtain ⟨e_2, hl, he⟩ := bnd he
    have hX : Z X 0 p l e rm_X4_sumOfThings s m args below meth c 0 0 (MQ below (QI X 0 r M s.heap.size) args s 0 0 (AA X 0 s.heap.size)) 4 M 27 [(2, .int e_2)] [] := by
      refine z_iload_n S dX4_sumOfThings_27 rfl 0 rfl ?_
      exact z_iret S (⟨Option.some.inj he, rfl⟩) dX4_sumOfThings_28
    exact loopZ (Zh := (fun a_2 => Z X 0 p l e rm_X4_sumOfThings s m args below meth c 0 0 (MQ below (QI X 0 r M s.heap.size) args s 0 0 (AA X 0 s.heap.size)) 4 M 4 [(0, .ref (X.2.2 a0)), (1, .int a1), (2, .int a_2.1), (3, .int a_2.2)] [])) (fun a_2 x hb hc hr => p_X4_sumOfThings_L4 S h_a0 hb hc (fun b hxe => by rw [hr b hxe]; exact hX)) FU _ hl
set_option maxRecDepth 100000 in
set_option maxHeartbeats 4000000 in
theorem K_X9_count {X : Cx} {l : Launch} {M : Mm} {a1 : Int32} {r : Int32}  (he : f_X9_count M a1 = some r) : KI X 0 l yX9_count (wz yX9_count cX9_count 2 (some .int)) rm_X9_count [.ref (X.2.2 1), .int a1] M r M := by
  intro sz
  refine K_of (Qc := (fun sz => QI X 0 r M sz)) (own := RX9) (lv0 := [(0, .ref (X.2.2 1)), (1, .int a1)]) (by decide +kernel) rfl (Nat.le_of_ble_eq_true rfl) rfl (fun p e s m args below meth c S => ?_) sz
  · unfold f_X9_count at he
    refine z_iload_n S dX9_count_0 rfl 1 rfl ?_
    rcases z_sw he with ⟨hk0, he⟩ | ⟨hk0, he⟩
    · refine z_tabIn (tgt := 64) S dX9_count_1 hk0 (by decide) (by decide) rfl (by decide) ?_
      refine z_aload_n S dX9_count_64 rfl 0 rfl ?_
      refine z_getGb (k2 := 4) S fo_RX9_20 rfl ok_1 (by decide) he dX9_count_65 (fun q1 hq1 he => ?_)
      refine z_getI S fo_RX9_191 rfl (okk4 hq1) dX9_count_68 ?_
      exact z_iret S (⟨Option.some.inj he, rfl⟩) dX9_count_71
    rcases z_sw he with ⟨hk1, he⟩ | ⟨hk1, he⟩
    · refine z_tabIn (tgt := 72) S dX9_count_1 hk1 (by decide) (by decide) rfl (by decide) ?_
      refine z_aload_n S dX9_count_72 rfl 0 rfl ?_
      refine z_getGb (k2 := 4) S fo_RX9_20 rfl ok_1 (by decide) he dX9_count_73 (fun q2 hq2 he => ?_)
      refine z_getI S fo_RX9_289 rfl (okk4 hq2) dX9_count_76 ?_
      exact z_iret S (⟨Option.some.inj he, rfl⟩) dX9_count_79
    rcases z_sw he with ⟨hk2, he⟩ | ⟨hk2, he⟩
    · refine z_tabIn (tgt := 80) S dX9_count_1 hk2 (by decide) (by decide) rfl (by decide) ?_
      refine z_aload_n S dX9_count_80 rfl 0 rfl ?_
      refine z_getGb (k2 := 4) S fo_RX9_20 rfl ok_1 (by decide) he dX9_count_81 (fun q3 hq3 he => ?_)
      refine z_getI S fo_RX9_121 rfl (okk4 hq3) dX9_count_84 ?_
      exact z_iret S (⟨Option.some.inj he, rfl⟩) dX9_count_87
    rcases z_sw he with ⟨hk3, he⟩ | ⟨hk3, he⟩
    · refine z_tabIn (tgt := 88) S dX9_count_1 hk3 (by decide) (by decide) rfl (by decide) ?_
      refine z_aload_n S dX9_count_88 rfl 0 rfl ?_
      refine z_getGb (k2 := 2) S fo_RX9_30 rfl ok_1 (by decide) he dX9_count_89 (fun q4 hq4 he => ?_)
      refine z_getI S fo_RX9_136 rfl (okk2 hq4) dX9_count_92 ?_
      exact z_iret S (⟨Option.some.inj he, rfl⟩) dX9_count_95
    rcases z_sw he with ⟨hk4, he⟩ | ⟨hk4, he⟩
    · refine z_tabIn (tgt := 96) S dX9_count_1 hk4 (by decide) (by decide) rfl (by decide) ?_
      refine z_aload_n S dX9_count_96 rfl 0 rfl ?_
      refine z_getGb (k2 := 4) S fo_RX9_20 rfl ok_1 (by decide) he dX9_count_97 (fun q5 hq5 he => ?_)
      refine z_getI S fo_RX9_355 rfl (okk4 hq5) dX9_count_100 ?_
      exact z_iret S (⟨Option.some.inj he, rfl⟩) dX9_count_103
    rcases z_sw he with ⟨hk5, he⟩ | ⟨hk5, he⟩
    · refine z_tabIn (tgt := 104) S dX9_count_1 hk5 (by decide) (by decide) rfl (by decide) ?_
      refine z_aload_n S dX9_count_104 rfl 0 rfl ?_
      refine z_getGb (k2 := 4) S fo_RX9_20 rfl ok_1 (by decide) he dX9_count_105 (fun q6 hq6 he => ?_)
      refine z_getI S fo_RX9_358 rfl (okk4 hq6) dX9_count_108 ?_
      exact z_iret S (⟨Option.some.inj he, rfl⟩) dX9_count_111
    rcases z_sw he with ⟨hk6, he⟩ | ⟨hk6, he⟩
    · refine z_tabIn (tgt := 112) S dX9_count_1 hk6 (by decide) (by decide) rfl (by decide) ?_
      refine z_aload_n S dX9_count_112 rfl 0 rfl ?_
      refine z_getGb (k2 := 4) S fo_RX9_20 rfl ok_1 (by decide) he dX9_count_113 (fun q7 hq7 he => ?_)
      obtain ⟨r8, h9, he⟩ := bnd he
      refine z_cVI (As := []) S cv_RX9_361 (K_X4_shownThings (okk4 hq7) h9) (okk4 hq7) (by decide) (q := (RX4, TX4, 10)) rfl rfl ⟨rfl, rfl⟩ ⟨Nat.le_of_ble_eq_true rfl, Nat.le_of_ble_eq_true rfl⟩ ⟨Nat.le_refl _, Nat.le_refl _⟩ rfl rfl (Nat.le_of_ble_eq_true rfl) dX9_count_116 ?_
      exact z_iret S (⟨Option.some.inj he, rfl⟩) dX9_count_119
    rcases z_sw he with ⟨hk7, he⟩ | ⟨hk7, he⟩
    · refine z_tabIn (tgt := 120) S dX9_count_1 hk7 (by decide) (by decide) rfl (by decide) ?_
      refine z_aload_n S dX9_count_120 rfl 0 rfl ?_
      refine z_getGb (k2 := 4) S fo_RX9_20 rfl ok_1 (by decide) he dX9_count_121 (fun q9 hq9 he => ?_)
      refine z_iconst (v := 4) S dX9_count_124 (by decide) ?_
      obtain ⟨r10, h9, he⟩ := bnd he
      refine z_cVI (As := [.int 4]) S cv_RX9_364 (K_X4_sumOfThings (okk4 hq9) h9) (okk4 hq9) (by decide) (q := (RX4, TX4, 10)) rfl rfl ⟨rfl, rfl⟩ ⟨Nat.le_of_ble_eq_true rfl, Nat.le_of_ble_eq_true rfl⟩ ⟨Nat.le_refl _, Nat.le_refl _⟩ rfl rfl (Nat.le_of_ble_eq_true rfl) dX9_count_125 ?_
      exact z_iret S (⟨Option.some.inj he, rfl⟩) dX9_count_128
    rcases z_sw he with ⟨hk8, he⟩ | ⟨hk8, he⟩
    · refine z_tabIn (tgt := 129) S dX9_count_1 hk8 (by decide) (by decide) rfl (by decide) ?_
      refine z_aload_n S dX9_count_129 rfl 0 rfl ?_
      refine z_getGb (k2 := 4) S fo_RX9_20 rfl ok_1 (by decide) he dX9_count_130 (fun q11 hq11 he => ?_)
      refine z_iconst (v := 2) S dX9_count_133 (by decide) ?_
      obtain ⟨r12, h9, he⟩ := bnd he
      refine z_cVI (As := [.int 2]) S cv_RX9_364 (K_X4_sumOfThings (okk4 hq11) h9) (okk4 hq11) (by decide) (q := (RX4, TX4, 10)) rfl rfl ⟨rfl, rfl⟩ ⟨Nat.le_of_ble_eq_true rfl, Nat.le_of_ble_eq_true rfl⟩ ⟨Nat.le_refl _, Nat.le_refl _⟩ rfl rfl (Nat.le_of_ble_eq_true rfl) dX9_count_134 ?_
      exact z_iret S (⟨Option.some.inj he, rfl⟩) dX9_count_137
    rcases z_sw he with ⟨hk9, he⟩ | ⟨hk9, he⟩
    · refine z_tabIn (tgt := 138) S dX9_count_1 hk9 (by decide) (by decide) rfl (by decide) ?_
      refine z_aload_n S dX9_count_138 rfl 0 rfl ?_
      refine z_getGb (k2 := 4) S fo_RX9_20 rfl ok_1 (by decide) he dX9_count_139 (fun q13 hq13 he => ?_)
      refine z_getI S fo_RX9_367 rfl (okk4 hq13) dX9_count_142 ?_
      exact z_iret S (⟨Option.some.inj he, rfl⟩) dX9_count_145
    rcases z_sw he with ⟨hk10, he⟩ | ⟨hk10, he⟩
    · refine z_tabIn (tgt := 146) S dX9_count_1 hk10 (by decide) (by decide) rfl (by decide) ?_
      refine z_aload_n S dX9_count_146 rfl 0 rfl ?_
      refine z_getGb (k2 := 4) S fo_RX9_20 rfl ok_1 (by decide) he dX9_count_147 (fun q14 hq14 he => ?_)
      refine z_cVI (As := []) S cv_RX9_342 (K_X4_logRows (okk4 hq14) rfl) (okk4 hq14) (by decide) (q := (RX4, TX4, 10)) rfl rfl ⟨rfl, rfl⟩ ⟨Nat.le_of_ble_eq_true rfl, Nat.le_of_ble_eq_true rfl⟩ ⟨Nat.le_refl _, Nat.le_refl _⟩ rfl rfl (Nat.le_of_ble_eq_true rfl) dX9_count_150 ?_
      exact z_iret S (⟨Option.some.inj he, rfl⟩) dX9_count_153
    rcases z_sw he with ⟨hk11, he⟩ | ⟨hk11, he⟩
    · refine z_tabIn (tgt := 154) S dX9_count_1 hk11 (by decide) (by decide) rfl (by decide) ?_
      refine z_aload_n S dX9_count_154 rfl 0 rfl ?_
      refine z_getI S fo_RX9_129 rfl ok_1 dX9_count_155 ?_
      exact z_iret S (⟨Option.some.inj he, rfl⟩) dX9_count_158
    refine z_tabOut (tgt := 159) S dX9_count_1 (sw_out12 hk0 hk1 hk2 hk3 hk4 hk5 hk6 hk7 hk8 hk9 hk10 hk11) (by decide) ?_
    refine z_iconst (v := (-1)) S dX9_count_159 (by decide) ?_
    exact z_iret S (⟨Option.some.inj he, rfl⟩) dX9_count_160
set_option maxRecDepth 100000 in
set_option maxHeartbeats 4000000 in
theorem p_X10_shown_L4 {X : Cx} {p : Program} {l : Launch} {e : Env} {s : State} {m : MethodId} {args : Array Value} {below : List Frame} {meth : Method} {c : Code} (S : SB X 1 p s m args meth c cX10_shown 3 (some .int) RX10) {M : Mm} {r : Int32} {v1 : Int32} {v2 : Int32} {x : (Int32 × Int32) ⊕ Int32}  (he : f_X10_shown_L4 M v1 v2 = some x) (hc : ∀ b, x = .inl b → Z X 1 p l e rm_X10_shown s m args below meth c 0 0 (MQ below (QI X 1 r M s.heap.size) args s 0 0 (AA X 1 s.heap.size)) 3 M 4 [(0, .ref (X.2.2 200)), (1, .int b.1), (2, .int b.2)] []) (hx : ∀ b, x = .inr b → Z X 1 p l e rm_X10_shown s m args below meth c 0 0 (MQ below (QI X 1 r M s.heap.size) args s 0 0 (AA X 1 s.heap.size)) 3 M 31 [(1, .int b)] []) : Z X 1 p l e rm_X10_shown s m args below meth c 0 0 (MQ below (QI X 1 r M s.heap.size) args s 0 0 (AA X 1 s.heap.size)) 3 M 4 [(0, .ref (X.2.2 200)), (1, .int v1), (2, .int v2)] [] := by
  unfold f_X10_shown_L4 at he
  refine z_iload_n S dX10_shown_4 rfl 2 rfl ?_
  refine z_aload_n S dX10_shown_5 rfl 0 rfl ?_
  refine z_getF (j := 201) S fo_RX10_7 1 rfl rfl ok_200 dX10_shown_6 ?_
  refine z_iconst (v := 3) S dX10_shown_9 (by decide) ?_
  refine z_iald S ok_201 rfl he dX10_shown_10 (fun he => ?_)
  refine z_icmp_ge (tgt := 31) S he dX10_shown_11 (by decide) (fun he => ?_) (fun he => ?_)
  · refine z_lv (ks := [1]) rfl ?_
    exact hx _ (Option.some.inj he).symm
  · refine z_iload_n S dX10_shown_14 rfl 1 rfl ?_
    refine z_aload_n S dX10_shown_15 rfl 0 rfl ?_
    refine z_iload_n S dX10_shown_16 rfl 2 rfl ?_
    refine z_iconst (v := 3) S dX10_shown_17 (by decide) ?_
    obtain ⟨r1, h9, he⟩ := bnd he
    refine z_cVI (As := [.int v2, .int 3]) S cv_RX10_70 (K_X10_of  h9) ok_200 (by decide) (q := (RX10, TX10, 28)) rfl rfl ⟨rfl, rfl⟩ ⟨Nat.le_of_ble_eq_true rfl, Nat.le_of_ble_eq_true rfl⟩ ⟨Nat.le_refl _, Nat.le_refl _⟩ rfl rfl (Nat.le_of_ble_eq_true rfl) dX10_shown_18 ?_
    refine z_iload_n S dX10_shown_21 rfl 2 rfl ?_
    refine z_ishl S dX10_shown_22 ?_
    refine z_ior S dX10_shown_23 ?_
    obtain ⟨x2, ex2, he⟩ := bnd he
    rw [Option.some.inj ex2]
    refine z_istore_n (lv' := [(0, .ref (X.2.2 200)), (1, .int x2), (2, .int v2)]) S [1, 0, 2] dX10_shown_24 rfl (by decide) rfl ?_
    refine z_iinc (v := (v2 + 1)) (lv' := [(0, .ref (X.2.2 200)), (1, .int x2), (2, .int (v2 + 1))]) S [1, 2, 0] 2 dX10_shown_25 rfl (by rfl) (by decide) rfl ?_
    refine z_goto (tgt := 4) S dX10_shown_28 (by decide) ?_
    refine z_lv (ks := [0, 1, 2]) rfl ?_
    exact hc _ (Option.some.inj he).symm
set_option maxRecDepth 100000 in
set_option maxHeartbeats 4000000 in
theorem K_X10_shown {X : Cx} {l : Launch} {M : Mm} {r : Int32}  (he : f_X10_shown M  = some r) : KI X 1 l yX10_shown (wz yX10_shown cX10_shown 3 (some .int)) rm_X10_shown [.ref (X.2.2 200)] M r M := by
  intro sz
  refine K_of (Qc := (fun sz => QI X 1 r M sz)) (own := RX10) (lv0 := [(0, .ref (X.2.2 200))]) (by decide +kernel) rfl (Nat.le_of_ble_eq_true rfl) rfl (fun p e s m args below meth c S => ?_) sz
  · unfold f_X10_shown at he
    refine z_iconst (v := 0) S dX10_shown_0 (by decide) ?_
    refine z_istore_n (lv' := [(0, .ref (X.2.2 200)), (1, .int 0)]) S [1, 0] dX10_shown_1 rfl (by decide) rfl ?_
    refine z_iconst (v := 0) S dX10_shown_2 (by decide) ?_
    refine z_istore_n (lv' := [(0, .ref (X.2.2 200)), (1, .int 0), (2, .int 0)]) S [1, 2, 0] dX10_shown_3 rfl (by decide) rfl ?_
    obtain ⟨e_3, hl, he⟩ := bnd he
    have hX : Z X 1 p l e rm_X10_shown s m args below meth c 0 0 (MQ below (QI X 1 r M s.heap.size) args s 0 0 (AA X 1 s.heap.size)) 3 M 31 [(1, .int e_3)] [] := by
      refine z_iload_n S dX10_shown_31 rfl 0 rfl ?_
      exact z_iret S (⟨Option.some.inj he, rfl⟩) dX10_shown_32
    exact loopZ (Zh := (fun a_3 => Z X 1 p l e rm_X10_shown s m args below meth c 0 0 (MQ below (QI X 1 r M s.heap.size) args s 0 0 (AA X 1 s.heap.size)) 3 M 4 [(0, .ref (X.2.2 200)), (1, .int a_3.1), (2, .int a_3.2)] [])) (fun a_3 x hb hc hr => p_X10_shown_L4 S  hb hc (fun b hxe => by rw [hr b hxe]; exact hX)) FU _ hl
set_option maxRecDepth 100000 in
set_option maxHeartbeats 4000000 in
theorem p_X10_together_L4 {X : Cx} {p : Program} {l : Launch} {e : Env} {s : State} {m : MethodId} {args : Array Value} {below : List Frame} {meth : Method} {c : Code} (S : SB X 1 p s m args meth c cX10_together 4 (some .int) RX10) {M : Mm} {r : Int32} {v1 : Int32} {v2 : Int32} {v3 : Int32} {x : (Int32 × Int32) ⊕ Int32}  (he : f_X10_together_L4 M v1 v2 v3 = some x) (hc : ∀ b, x = .inl b → Z X 1 p l e rm_X10_together s m args below meth c 0 0 (MQ below (QI X 1 r M s.heap.size) args s 0 0 (AA X 1 s.heap.size)) 4 M 4 [(0, .ref (X.2.2 200)), (1, .int v1), (2, .int b.1), (3, .int b.2)] []) (hx : ∀ b, x = .inr b → Z X 1 p l e rm_X10_together s m args below meth c 0 0 (MQ below (QI X 1 r M s.heap.size) args s 0 0 (AA X 1 s.heap.size)) 4 M 29 [(2, .int b)] []) : Z X 1 p l e rm_X10_together s m args below meth c 0 0 (MQ below (QI X 1 r M s.heap.size) args s 0 0 (AA X 1 s.heap.size)) 4 M 4 [(0, .ref (X.2.2 200)), (1, .int v1), (2, .int v2), (3, .int v3)] [] := by
  unfold f_X10_together_L4 at he
  refine z_iload_n S dX10_together_4 rfl 3 rfl ?_
  refine z_aload_n S dX10_together_5 rfl 0 rfl ?_
  refine z_getF (j := 201) S fo_RX10_7 1 rfl rfl ok_200 dX10_together_6 ?_
  refine z_iconst (v := 3) S dX10_together_9 (by decide) ?_
  refine z_iald S ok_201 rfl he dX10_together_10 (fun he => ?_)
  refine z_icmp_ge (tgt := 29) S he dX10_together_11 (by decide) (fun he => ?_) (fun he => ?_)
  · refine z_lv (ks := [2]) rfl ?_
    exact hx _ (Option.some.inj he).symm
  · refine z_iload_n S dX10_together_14 rfl 2 rfl ?_
    refine z_aload_n S dX10_together_15 rfl 0 rfl ?_
    refine z_iload_n S dX10_together_16 rfl 3 rfl ?_
    refine z_iload_n S dX10_together_17 rfl 1 rfl ?_
    obtain ⟨r1, h9, he⟩ := bnd he
    refine z_cVI (As := [.int v3, .int v1]) S cv_RX10_70 (K_X10_of  h9) ok_200 (by decide) (q := (RX10, TX10, 28)) rfl rfl ⟨rfl, rfl⟩ ⟨Nat.le_of_ble_eq_true rfl, Nat.le_of_ble_eq_true rfl⟩ ⟨Nat.le_refl _, Nat.le_refl _⟩ rfl rfl (Nat.le_of_ble_eq_true rfl) dX10_together_18 ?_
    refine z_iadd S dX10_together_21 ?_
    refine z_istore_n (lv' := [(0, .ref (X.2.2 200)), (1, .int v1), (2, .int (v2 + r1)), (3, .int v3)]) S [1, 2, 0, 3] dX10_together_22 rfl (by decide) rfl ?_
    refine z_iinc (v := (v3 + 1)) (lv' := [(0, .ref (X.2.2 200)), (1, .int v1), (2, .int (v2 + r1)), (3, .int (v3 + 1))]) S [1, 2, 3, 0] 3 dX10_together_23 rfl (by rfl) (by decide) rfl ?_
    refine z_goto (tgt := 4) S dX10_together_26 (by decide) ?_
    refine z_lv (ks := [0, 1, 2, 3]) rfl ?_
    exact hc _ (Option.some.inj he).symm
set_option maxRecDepth 100000 in
set_option maxHeartbeats 4000000 in
theorem K_X10_together {X : Cx} {l : Launch} {M : Mm} {a1 : Int32} {r : Int32}  (he : f_X10_together M a1 = some r) : KI X 1 l yX10_together (wz yX10_together cX10_together 4 (some .int)) rm_X10_together [.ref (X.2.2 200), .int a1] M r M := by
  intro sz
  refine K_of (Qc := (fun sz => QI X 1 r M sz)) (own := RX10) (lv0 := [(0, .ref (X.2.2 200)), (1, .int a1)]) (by decide +kernel) rfl (Nat.le_of_ble_eq_true rfl) rfl (fun p e s m args below meth c S => ?_) sz
  · unfold f_X10_together at he
    refine z_iconst (v := 0) S dX10_together_0 (by decide) ?_
    refine z_istore_n (lv' := [(0, .ref (X.2.2 200)), (1, .int a1), (2, .int 0)]) S [1, 2, 0] dX10_together_1 rfl (by decide) rfl ?_
    refine z_iconst (v := 0) S dX10_together_2 (by decide) ?_
    refine z_istore_n (lv' := [(0, .ref (X.2.2 200)), (1, .int a1), (2, .int 0), (3, .int 0)]) S [1, 2, 3, 0] dX10_together_3 rfl (by decide) rfl ?_
    obtain ⟨e_2, hl, he⟩ := bnd he
    have hX : Z X 1 p l e rm_X10_together s m args below meth c 0 0 (MQ below (QI X 1 r M s.heap.size) args s 0 0 (AA X 1 s.heap.size)) 4 M 29 [(2, .int e_2)] [] := by
      refine z_iload_n S dX10_together_29 rfl 0 rfl ?_
      exact z_iret S (⟨Option.some.inj he, rfl⟩) dX10_together_30
    exact loopZ (Zh := (fun a_2 => Z X 1 p l e rm_X10_together s m args below meth c 0 0 (MQ below (QI X 1 r M s.heap.size) args s 0 0 (AA X 1 s.heap.size)) 4 M 4 [(0, .ref (X.2.2 200)), (1, .int a1), (2, .int a_2.1), (3, .int a_2.2)] [])) (fun a_2 x hb hc hr => p_X10_together_L4 S  hb hc (fun b hxe => by rw [hr b hxe]; exact hX)) FU _ hl
set_option maxRecDepth 100000 in
set_option maxHeartbeats 4000000 in
theorem K_X10_count {X : Cx} {l : Launch} {M : Mm} {a1 : Int32} {r : Int32} {N : Mm}  (he : f_X10_count M a1 = some (r, N)) : KI X 1 l yX10_count (wz yX10_count cX10_count 2 (some .int)) rm_X10_count [.ref (X.2.2 200), .int a1] M r N := by
  intro sz
  refine K_of (Qc := (fun sz => QI X 1 r N sz)) (own := RX10) (lv0 := [(0, .ref (X.2.2 200)), (1, .int a1)]) (by decide +kernel) rfl (Nat.le_of_ble_eq_true rfl) rfl (fun p e s m args below meth c S => ?_) sz
  · unfold f_X10_count at he
    refine z_aload_n S dX10_count_0 rfl 0 rfl ?_
    refine z_iconst (v := 0) S dX10_count_1 (by decide) ?_
    refine z_putIb S fo_RX10_63p rfl ok_200 rfl rfl he dX10_count_2 (fun M1 he => ?_)
    refine z_iload_n S dX10_count_5 rfl 1 rfl ?_
    refine z_if_ne (tgt := 16) S he dX10_count_6 (by decide) (fun he => ?_) (fun he => ?_)
    · refine z_iload_n S dX10_count_16 rfl 1 rfl ?_
      refine z_iconst (v := 1) S dX10_count_17 (by decide) ?_
      refine z_icmp_ne (tgt := 28) S he dX10_count_18 (by decide) (fun he => ?_) (fun he => ?_)
      · refine z_iload_n S dX10_count_28 rfl 1 rfl ?_
        refine z_iconst (v := 2) S dX10_count_29 (by decide) ?_
        refine z_icmp_ne (tgt := 40) S he dX10_count_30 (by decide) (fun he => ?_) (fun he => ?_)
        · refine z_iload_n S dX10_count_40 rfl 1 rfl ?_
          refine z_iconst (v := 3) S dX10_count_41 (by decide) ?_
          refine z_icmp_ne (tgt := 52) S he dX10_count_42 (by decide) (fun he => ?_) (fun he => ?_)
          · refine z_iload_n S dX10_count_52 rfl 1 rfl ?_
            refine z_iconst (v := 4) S dX10_count_53 (by decide) ?_
            refine z_icmp_ne (tgt := 65) S he dX10_count_54 (by decide) (fun he => ?_) (fun he => ?_)
            · refine z_iload_n S dX10_count_65 rfl 1 rfl ?_
              refine z_iconst (v := 5) S dX10_count_66 (by decide) ?_
              refine z_icmp_ne (tgt := 77) S he dX10_count_67 (by decide) (fun he => ?_) (fun he => ?_)
              · refine z_iload_n S dX10_count_77 rfl 1 rfl ?_
                refine z_bipush (v := 6) S dX10_count_78 (by decide) ?_
                refine z_icmp_ne (tgt := 88) S he dX10_count_80 (by decide) (fun he => ?_) (fun he => ?_)
                · refine z_iload_n S dX10_count_88 rfl 1 rfl ?_
                  refine z_bipush (v := 7) S dX10_count_89 (by decide) ?_
                  refine z_icmp_ne (tgt := 100) S he dX10_count_91 (by decide) (fun he => ?_) (fun he => ?_)
                  · refine z_iload_n S dX10_count_100 rfl 1 rfl ?_
                    refine z_bipush (v := 8) S dX10_count_101 (by decide) ?_
                    refine z_icmp_ne (tgt := 112) S he dX10_count_103 (by decide) (fun he => ?_) (fun he => ?_)
                    · refine z_iload_n S dX10_count_112 rfl 1 rfl ?_
                      refine z_bipush (v := 9) S dX10_count_113 (by decide) ?_
                      refine z_icmp_ne (tgt := 126) S he dX10_count_115 (by decide) (fun he => ?_) (fun he => ?_)
                      · refine z_iload_n S dX10_count_126 rfl 1 rfl ?_
                        refine z_bipush (v := 10) S dX10_count_127 (by decide) ?_
                        refine z_icmp_ne (tgt := 140) S he dX10_count_129 (by decide) (fun he => ?_) (fun he => ?_)
                        · refine z_iload_n S dX10_count_140 rfl 1 rfl ?_
                          refine z_bipush (v := 11) S dX10_count_141 (by decide) ?_
                          refine z_icmp_ne (tgt := 153) S he dX10_count_143 (by decide) (fun he => ?_) (fun he => ?_)
                          · refine z_iconst (v := (-1)) S dX10_count_153 (by decide) ?_
                            exact z_iret S (Prod.mk.inj (Option.some.inj he)) dX10_count_154
                          · refine z_aload_n S dX10_count_146 rfl 0 rfl ?_
                            refine z_getI S fo_RX10_184 rfl ok_200 dX10_count_147 ?_
                            refine z_goto (tgt := 154) S dX10_count_150 (by decide) ?_
                            exact z_iret S (Prod.mk.inj (Option.some.inj he)) dX10_count_154
                        · refine z_aload_n S dX10_count_132 rfl 0 rfl ?_
                          refine z_getF (j := 201) S fo_RX10_7 1 rfl rfl ok_200 dX10_count_133 ?_
                          refine z_bipush (v := 8) S dX10_count_136 (by decide) ?_
                          refine z_iald S ok_201 rfl he dX10_count_138 (fun he => ?_)
                          exact z_iret S (Prod.mk.inj (Option.some.inj he)) dX10_count_139
                      · refine z_aload_n S dX10_count_118 rfl 0 rfl ?_
                        refine z_getF (j := 201) S fo_RX10_7 1 rfl rfl ok_200 dX10_count_119 ?_
                        refine z_bipush (v := 7) S dX10_count_122 (by decide) ?_
                        refine z_iald S ok_201 rfl he dX10_count_124 (fun he => ?_)
                        exact z_iret S (Prod.mk.inj (Option.some.inj he)) dX10_count_125
                    · refine z_aload_n S dX10_count_106 rfl 0 rfl ?_
                      refine z_iconst (v := 2) S dX10_count_107 (by decide) ?_
                      obtain ⟨r2, h9, he⟩ := bnd he
                      refine z_cVI (As := [.int 2]) S cv_RX10_358 (K_X10_together  h9) ok_200 (by decide) (q := (RX10, TX10, 28)) rfl rfl ⟨rfl, rfl⟩ ⟨Nat.le_of_ble_eq_true rfl, Nat.le_of_ble_eq_true rfl⟩ ⟨Nat.le_refl _, Nat.le_refl _⟩ rfl rfl (Nat.le_of_ble_eq_true rfl) dX10_count_108 ?_
                      exact z_iret S (Prod.mk.inj (Option.some.inj he)) dX10_count_111
                  · refine z_aload_n S dX10_count_94 rfl 0 rfl ?_
                    refine z_iconst (v := 4) S dX10_count_95 (by decide) ?_
                    obtain ⟨r3, h9, he⟩ := bnd he
                    refine z_cVI (As := [.int 4]) S cv_RX10_358 (K_X10_together  h9) ok_200 (by decide) (q := (RX10, TX10, 28)) rfl rfl ⟨rfl, rfl⟩ ⟨Nat.le_of_ble_eq_true rfl, Nat.le_of_ble_eq_true rfl⟩ ⟨Nat.le_refl _, Nat.le_refl _⟩ rfl rfl (Nat.le_of_ble_eq_true rfl) dX10_count_96 ?_
                    exact z_iret S (Prod.mk.inj (Option.some.inj he)) dX10_count_99
                · refine z_aload_n S dX10_count_83 rfl 0 rfl ?_
                  obtain ⟨r4, h9, he⟩ := bnd he
                  refine z_cVI (As := []) S cv_RX10_355 (K_X10_shown  h9) ok_200 (by decide) (q := (RX10, TX10, 28)) rfl rfl ⟨rfl, rfl⟩ ⟨Nat.le_of_ble_eq_true rfl, Nat.le_of_ble_eq_true rfl⟩ ⟨Nat.le_refl _, Nat.le_refl _⟩ rfl rfl (Nat.le_of_ble_eq_true rfl) dX10_count_84 ?_
                  exact z_iret S (Prod.mk.inj (Option.some.inj he)) dX10_count_87
              · refine z_aload_n S dX10_count_70 rfl 0 rfl ?_
                refine z_getF (j := 201) S fo_RX10_7 1 rfl rfl ok_200 dX10_count_71 ?_
                refine z_iconst (v := 5) S dX10_count_74 (by decide) ?_
                refine z_iald S ok_201 rfl he dX10_count_75 (fun he => ?_)
                exact z_iret S (Prod.mk.inj (Option.some.inj he)) dX10_count_76
            · refine z_aload_n S dX10_count_57 rfl 0 rfl ?_
              refine z_getF (j := 201) S fo_RX10_7 1 rfl rfl ok_200 dX10_count_58 ?_
              refine z_bipush (v := 6) S dX10_count_61 (by decide) ?_
              refine z_iald S ok_201 rfl he dX10_count_63 (fun he => ?_)
              exact z_iret S (Prod.mk.inj (Option.some.inj he)) dX10_count_64
          · refine z_aload_n S dX10_count_45 rfl 0 rfl ?_
            refine z_getF (j := 201) S fo_RX10_7 1 rfl rfl ok_200 dX10_count_46 ?_
            refine z_iconst (v := 1) S dX10_count_49 (by decide) ?_
            refine z_iald S ok_201 rfl he dX10_count_50 (fun he => ?_)
            exact z_iret S (Prod.mk.inj (Option.some.inj he)) dX10_count_51
        · refine z_aload_n S dX10_count_33 rfl 0 rfl ?_
          refine z_getF (j := 201) S fo_RX10_7 1 rfl rfl ok_200 dX10_count_34 ?_
          refine z_iconst (v := 0) S dX10_count_37 (by decide) ?_
          refine z_iald S ok_201 rfl he dX10_count_38 (fun he => ?_)
          exact z_iret S (Prod.mk.inj (Option.some.inj he)) dX10_count_39
      · refine z_aload_n S dX10_count_21 rfl 0 rfl ?_
        refine z_getF (j := 201) S fo_RX10_7 1 rfl rfl ok_200 dX10_count_22 ?_
        refine z_iconst (v := 4) S dX10_count_25 (by decide) ?_
        refine z_iald S ok_201 rfl he dX10_count_26 (fun he => ?_)
        exact z_iret S (Prod.mk.inj (Option.some.inj he)) dX10_count_27
    · refine z_aload_n S dX10_count_9 rfl 0 rfl ?_
      refine z_getF (j := 201) S fo_RX10_7 1 rfl rfl ok_200 dX10_count_10 ?_
      refine z_iconst (v := 3) S dX10_count_13 (by decide) ?_
      refine z_iald S ok_201 rfl he dX10_count_14 (fun he => ?_)
      exact z_iret S (Prod.mk.inj (Option.some.inj he)) dX10_count_15
