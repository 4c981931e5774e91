set_option maxRecDepth 100000 in
set_option maxHeartbeats 4000000 in
theorem p_X6_weigh_L13 {X : Cx} {p : Program} {l : Launch} {e : Env} {s : State} {m : MethodId} {args : Array Value} {below : List Frame} {meth : Method} {c : Code} (S : SB X 0 p s m args meth c cX6_weigh 5 none RX6) {M : Mm} {N : Mm} {v1 : Nat} {v2 : Nat} {v3 : Int32} {v4 : Int32} {x : (Mm × Int32) ⊕ Mm} (h_v1 : OK 0 v1 4) (h_v2 : OK 0 v2 2) (he : f_X6_weigh_L13 M v1 v2 v3 v4 = some x) (hc : ∀ b, x = .inl b → Z X 0 p l e rm_X6_weigh s m args below meth c 0 0 (MQ below (QV X 0 N s.heap.size) args s 0 0 (AA X 0 s.heap.size)) 5 b.1 13 [(0, .ref (X.2.2 82)), (1, .ref (X.2.2 v1)), (2, .ref (X.2.2 v2)), (3, .int v3), (4, .int b.2)] []) (hx : ∀ b, x = .inr b → Z X 0 p l e rm_X6_weigh s m args below meth c 0 0 (MQ below (QV X 0 N s.heap.size) args s 0 0 (AA X 0 s.heap.size)) 5 b 50 [(0, .ref (X.2.2 82)), (1, .ref (X.2.2 v1)), (2, .ref (X.2.2 v2)), (3, .int v3)] []) : Z X 0 p l e rm_X6_weigh s m args below meth c 0 0 (MQ below (QV X 0 N s.heap.size) args s 0 0 (AA X 0 s.heap.size)) 5 M 13 [(0, .ref (X.2.2 82)), (1, .ref (X.2.2 v1)), (2, .ref (X.2.2 v2)), (3, .int v3), (4, .int v4)] [] := by
  unfold f_X6_weigh_L13 at he
  refine z_iload S dX6_weigh_13 4 rfl ?_
  refine z_aload_n S dX6_weigh_15 rfl 1 rfl ?_
  refine z_getI S fo_RX6_30 rfl h_v1 dX6_weigh_16 ?_
  refine z_icmp_ge (tgt := 50) S he dX6_weigh_19 (by decide) (fun he => ?_) (fun he => ?_)
  · refine z_lv (ks := [0, 1, 2, 3]) rfl ?_
    exact hx _ (Option.some.inj he).symm
  · refine z_aload_n S dX6_weigh_22 rfl 0 rfl ?_
    refine z_getF (j := 83) S fo_RX6_9 1 rfl rfl ok_82 dX6_weigh_23 ?_
    refine z_iload_n S dX6_weigh_26 rfl 3 rfl ?_
    refine z_bipush (v := 10) S dX6_weigh_27 (by decide) ?_
    refine z_imul S dX6_weigh_29 ?_
    refine z_iload S dX6_weigh_30 4 rfl ?_
    refine z_iadd S dX6_weigh_32 ?_
    refine z_aload_n S dX6_weigh_33 rfl 2 rfl ?_
    refine z_aload_n S dX6_weigh_34 rfl 1 rfl ?_
    refine z_iload_n S dX6_weigh_35 rfl 3 rfl ?_
    refine z_iload S dX6_weigh_36 4 rfl ?_
    obtain ⟨⟨r1, M2⟩, h9, he⟩ := bnd he
    dsimp only at he
    refine z_cVI (As := [.ref (X.2.2 v1), .int v3, .int v4]) S cv_RX6_33 (K_X2_weighs h_v2 h_v1 h9) h_v2 (by decide) (q := (RX2, TX2, 7)) rfl rfl ⟨rfl, rfl⟩ ⟨Nat.le_of_ble_eq_true rfl, Nat.le_of_ble_eq_true rfl⟩ ⟨Nat.le_refl _, Nat.le_refl _⟩ rfl rfl (Nat.le_of_ble_eq_true rfl) dX6_weigh_38 ?_
    obtain ⟨M3, h9, he⟩ := bnd he
    refine z_cNV (As := [.ref (X.2.2 83), .int ((v3 * 10) + v4), .int r1]) S cn_RX6_39 (Kt_X9_put ok_83 (Option.some.inj h9)) ⟨rfl, rfl⟩ ⟨Nat.le_of_ble_eq_true rfl, Nat.le_of_ble_eq_true rfl⟩ ⟨Nat.le_refl _, Nat.le_refl _⟩ rfl rfl (Nat.le_of_ble_eq_true rfl) dX6_weigh_41 ?_
    refine z_iinc (v := (v4 + 1)) (lv' := [(0, .ref (X.2.2 82)), (1, .ref (X.2.2 v1)), (2, .ref (X.2.2 v2)), (3, .int v3), (4, .int (v4 + 1))]) S [1, 2, 3, 4, 0] 4 dX6_weigh_44 rfl (by rfl) (by decide) rfl ?_
    refine z_goto (tgt := 13) S dX6_weigh_47 (by decide) ?_
    refine z_lv (ks := [0, 1, 2, 3, 4]) rfl ?_
    exact hc _ (Option.some.inj he).symm
set_option maxRecDepth 100000 in
set_option maxHeartbeats 4000000 in
theorem p_X6_weigh_L2 {X : Cx} {p : Program} {l : Launch} {e : Env} {s : State} {m : MethodId} {args : Array Value} {below : List Frame} {meth : Method} {c : Code} (S : SB X 0 p s m args meth c cX6_weigh 5 none RX6) {M : Mm} {N : Mm} {v1 : Nat} {v2 : Nat} {v3 : Int32} {x : (Mm × Int32) ⊕ Mm} (h_v1 : OK 0 v1 4) (h_v2 : OK 0 v2 2) (he : f_X6_weigh_L2 M v1 v2 v3 = some x) (hc : ∀ b, x = .inl b → Z X 0 p l e rm_X6_weigh s m args below meth c 0 0 (MQ below (QV X 0 N s.heap.size) args s 0 0 (AA X 0 s.heap.size)) 5 b.1 2 [(0, .ref (X.2.2 82)), (1, .ref (X.2.2 v1)), (2, .ref (X.2.2 v2)), (3, .int b.2)] []) (hx : ∀ b, x = .inr b → Z X 0 p l e rm_X6_weigh s m args below meth c 0 0 (MQ below (QV X 0 N s.heap.size) args s 0 0 (AA X 0 s.heap.size)) 5 b 56 [(0, .ref (X.2.2 82)), (1, .ref (X.2.2 v1))] []) : Z X 0 p l e rm_X6_weigh s m args below meth c 0 0 (MQ below (QV X 0 N s.heap.size) args s 0 0 (AA X 0 s.heap.size)) 5 M 2 [(0, .ref (X.2.2 82)), (1, .ref (X.2.2 v1)), (2, .ref (X.2.2 v2)), (3, .int v3)] [] := by
  unfold f_X6_weigh_L2 at he
  refine z_iload_n S dX6_weigh_2 rfl 3 rfl ?_
  refine z_aload_n S dX6_weigh_3 rfl 1 rfl ?_
  refine z_getI S fo_RX6_24 rfl h_v1 dX6_weigh_4 ?_
  refine z_icmp_ge (tgt := 56) S he dX6_weigh_7 (by decide) (fun he => ?_) (fun he => ?_)
  · refine z_lv (ks := [0, 1]) rfl ?_
    exact hx _ (Option.some.inj he).symm
  · refine z_iconst (v := 0) S dX6_weigh_10 (by decide) ?_
    refine z_istore (lv' := [(0, .ref (X.2.2 82)), (1, .ref (X.2.2 v1)), (2, .ref (X.2.2 v2)), (3, .int v3), (4, .int 0)]) S [1, 2, 3, 4, 0] dX6_weigh_11 (by decide) rfl ?_
    obtain ⟨e_4, hl, he⟩ := bnd he
    have hX : Z X 0 p l e rm_X6_weigh s m args below meth c 0 0 (MQ below (QV X 0 N s.heap.size) args s 0 0 (AA X 0 s.heap.size)) 5 e_4 50 [(0, .ref (X.2.2 82)), (1, .ref (X.2.2 v1)), (2, .ref (X.2.2 v2)), (3, .int v3)] [] := by
      refine z_iinc (v := (v3 + 1)) (lv' := [(0, .ref (X.2.2 82)), (1, .ref (X.2.2 v1)), (2, .ref (X.2.2 v2)), (3, .int (v3 + 1))]) S [1, 2, 3, 0] 3 dX6_weigh_50 rfl (by rfl) (by decide) rfl ?_
      refine z_goto (tgt := 2) S dX6_weigh_53 (by decide) ?_
      refine z_lv (ks := [0, 1, 2, 3]) rfl ?_
      exact hc _ (Option.some.inj he).symm
    have hZ9 := loopZ (f := (fun a_4 => f_X6_weigh_L13 a_4.1 v1 v2 v3 a_4.2)) (Zh := (fun a_4 => Z X 0 p l e rm_X6_weigh s m args below meth c 0 0 (MQ below (QV X 0 N s.heap.size) args s 0 0 (AA X 0 s.heap.size)) 5 a_4.1 13 [(0, .ref (X.2.2 82)), (1, .ref (X.2.2 v1)), (2, .ref (X.2.2 v2)), (3, .int v3), (4, .int a_4.2)] [])) (fun a_4 x hb hc hr => p_X6_weigh_L13 S h_v1 h_v2 hb hc (fun b hxe => by rw [hr b hxe]; exact hX)) FU (M, 0) hl
    exact hZ9
set_option maxRecDepth 100000 in
set_option maxHeartbeats 4000000 in
theorem K_X6_weigh {X : Cx} {l : Launch} {M : Mm} {a1 : Nat} {a2 : Nat} {N : Mm} (h_a1 : OK 0 a1 4) (h_a2 : OK 0 a2 2) (he : f_X6_weigh M a1 a2 = some N) : KV X 0 l yX6_weigh (wz yX6_weigh cX6_weigh 5 none) rm_X6_weigh [.ref (X.2.2 82), .ref (X.2.2 a1), .ref (X.2.2 a2)] M N := by
  intro sz
  refine K_of (Qc := (fun sz => QV X 0 N sz)) (own := RX6) (lv0 := [(0, .ref (X.2.2 82)), (1, .ref (X.2.2 a1)), (2, .ref (X.2.2 a2))]) (by decide +kernel) rfl (Nat.le_of_ble_eq_true rfl) rfl (fun p e s m args below meth c S => ?_) sz
  · unfold f_X6_weigh at he
    refine z_iconst (v := 0) S dX6_weigh_0 (by decide) ?_
    refine z_istore_n (lv' := [(0, .ref (X.2.2 82)), (1, .ref (X.2.2 a1)), (2, .ref (X.2.2 a2)), (3, .int 0)]) S [1, 2, 3, 0] dX6_weigh_1 rfl (by decide) rfl ?_
    obtain ⟨e_5, hl, he⟩ := bnd he
    have hX : Z X 0 p l e rm_X6_weigh s m args below meth c 0 0 (MQ below (QV X 0 N s.heap.size) args s 0 0 (AA X 0 s.heap.size)) 5 e_5 56 [(0, .ref (X.2.2 82)), (1, .ref (X.2.2 a1))] [] := by
      refine z_aload_n S dX6_weigh_56 rfl 0 rfl ?_
      refine z_aload_n S dX6_weigh_57 rfl 1 rfl ?_
      obtain ⟨M6, h9, he⟩ := bnd he
      refine z_cVV (As := [.ref (X.2.2 a1)]) S cv_RX6_43 (K_X6_listen h_a1 h9) ok_82 (by decide) (q := (RX6, TX6, 4)) rfl rfl ⟨rfl, rfl⟩ ⟨Nat.le_of_ble_eq_true rfl, Nat.le_of_ble_eq_true rfl⟩ ⟨Nat.le_refl _, Nat.le_refl _⟩ rfl rfl (Nat.le_of_ble_eq_true rfl) dX6_weigh_58 ?_
      exact z_vret S (Option.some.inj he) dX6_weigh_61
    have hZ9 := loopZ (f := (fun a_5 => f_X6_weigh_L2 a_5.1 a1 a2 a_5.2)) (Zh := (fun a_5 => Z X 0 p l e rm_X6_weigh s m args below meth c 0 0 (MQ below (QV X 0 N s.heap.size) args s 0 0 (AA X 0 s.heap.size)) 5 a_5.1 2 [(0, .ref (X.2.2 82)), (1, .ref (X.2.2 a1)), (2, .ref (X.2.2 a2)), (3, .int a_5.2)] [])) (fun a_5 x hb hc hr => p_X6_weigh_L2 S h_a1 h_a2 hb hc (fun b hxe => by rw [hr b hxe]; exact hX)) FU (M, 0) hl
    exact hZ9
set_option maxRecDepth 100000 in
set_option maxHeartbeats 4000000 in
theorem p_X6_passDay_L17 {X : Cx} {p : Program} {l : Launch} {e : Env} {s : State} {m : MethodId} {args : Array Value} {below : List Frame} {meth : Method} {c : Code} (S : SB X 0 p s m args meth c cX6_passDay 7 (some .int) RX6) {M : Mm} {N : Mm} {r : Int32} {v1 : Nat} {v4 : Int32} {v5 : Int32} {x : (Mm × Int32) ⊕ Mm} (h_v1 : OK 0 v1 4) (he : f_X6_passDay_L17 M v1 v4 v5 = some x) (hc : ∀ b, x = .inl b → Z X 0 p l e rm_X6_passDay s m args below meth c 0 0 (MQ below (QI X 0 r N s.heap.size) args s 0 0 (AA X 0 s.heap.size)) 7 b.1 17 [(0, .ref (X.2.2 82)), (1, .ref (X.2.2 v1)), (4, .int v4), (5, .int b.2)] []) (hx : ∀ b, x = .inr b → Z X 0 p l e rm_X6_passDay s m args below meth c 0 0 (MQ below (QI X 0 r N s.heap.size) args s 0 0 (AA X 0 s.heap.size)) 7 b 65 [(0, .ref (X.2.2 82)), (1, .ref (X.2.2 v1)), (4, .int v4)] []) : Z X 0 p l e rm_X6_passDay s m args below meth c 0 0 (MQ below (QI X 0 r N s.heap.size) args s 0 0 (AA X 0 s.heap.size)) 7 M 17 [(0, .ref (X.2.2 82)), (1, .ref (X.2.2 v1)), (4, .int v4), (5, .int v5)] [] := by
  unfold f_X6_passDay_L17 at he
  refine z_iload S dX6_passDay_17 3 rfl ?_
  refine z_aload_n S dX6_passDay_19 rfl 1 rfl ?_
  refine z_getI S fo_RX6_30 rfl h_v1 dX6_passDay_20 ?_
  refine z_icmp_ge (tgt := 65) S he dX6_passDay_23 (by decide) (fun he => ?_) (fun he => ?_)
  · refine z_lv (ks := [0, 1, 2]) rfl ?_
    exact hx _ (Option.some.inj he).symm
  · refine z_aload_n S dX6_passDay_26 rfl 0 rfl ?_
    refine z_getF (j := 85) S fo_RX6_18 3 rfl rfl ok_82 dX6_passDay_27 ?_
    refine z_iload S dX6_passDay_30 3 rfl ?_
    refine z_cNI (As := [.ref (X.2.2 85), .int v5]) S cn_RX6_55 (Kt_X9_at ok_85 rfl) ⟨rfl, rfl⟩ ⟨Nat.le_of_ble_eq_true rfl, Nat.le_of_ble_eq_true rfl⟩ ⟨Nat.le_refl _, Nat.le_refl _⟩ rfl rfl (Nat.le_of_ble_eq_true rfl) dX6_passDay_32 ?_
    refine z_istore (lv' := [(0, .ref (X.2.2 82)), (1, .ref (X.2.2 v1)), (4, .int v4), (5, .int v5), (6, .int (t_X9_at M 85 v5))]) S [1, 2, 3, 4, 0] dX6_passDay_35 (by decide) rfl ?_
    refine z_iload S dX6_passDay_37 4 rfl ?_
    refine z_iconst (v := (-1)) S dX6_passDay_39 (by decide) ?_
    refine z_icmp_eq (tgt := 59) S he dX6_passDay_40 (by decide) (fun he => ?_) (fun he => ?_)
    · refine z_iinc (v := (v5 + 1)) (lv' := [(0, .ref (X.2.2 82)), (1, .ref (X.2.2 v1)), (4, .int v4), (5, .int (v5 + 1)), (6, .int (t_X9_at M 85 v5))]) S [1, 2, 3, 0, 4] 3 dX6_passDay_59 rfl (by rfl) (by decide) rfl ?_
      refine z_goto (tgt := 17) S dX6_passDay_62 (by decide) ?_
      refine z_lv (ks := [0, 1, 2, 3]) rfl ?_
      exact hc _ (Option.some.inj he).symm
    · refine z_aload_n S dX6_passDay_43 rfl 1 rfl ?_
      refine z_iload S dX6_passDay_44 3 rfl ?_
      refine z_iload S dX6_passDay_46 4 rfl ?_
      refine z_aload_n S dX6_passDay_48 rfl 0 rfl ?_
      refine z_iload S dX6_passDay_49 4 rfl ?_
      refine z_iload S dX6_passDay_51 3 rfl ?_
      refine z_cVI (As := [.int (t_X9_at M 85 v5), .int v5]) S cv_RX6_47 (K_X6_likes  rfl) ok_82 (by decide) (q := (RX6, TX6, 4)) rfl rfl ⟨rfl, rfl⟩ ⟨Nat.le_of_ble_eq_true rfl, Nat.le_of_ble_eq_true rfl⟩ ⟨Nat.le_refl _, Nat.le_refl _⟩ rfl rfl (Nat.le_of_ble_eq_true rfl) dX6_passDay_53 ?_
      obtain ⟨M4, h9, he⟩ := bnd he
      refine z_cVV (As := [.int v5, .int (t_X9_at M 85 v5), .int (f_X6_likes M (t_X9_at M 85 v5) v5)]) S cv_RX6_91 (K_X4_note h_v1 h9) h_v1 (by decide) (q := (RX4, TX4, 10)) rfl rfl ⟨rfl, rfl⟩ ⟨Nat.le_of_ble_eq_true rfl, Nat.le_of_ble_eq_true rfl⟩ ⟨Nat.le_refl _, Nat.le_refl _⟩ rfl rfl (Nat.le_of_ble_eq_true rfl) dX6_passDay_56 ?_
      refine z_iinc (v := (v5 + 1)) (lv' := [(0, .ref (X.2.2 82)), (1, .ref (X.2.2 v1)), (4, .int v4), (5, .int (v5 + 1)), (6, .int (t_X9_at M 85 v5))]) S [1, 2, 3, 0, 4] 3 dX6_passDay_59 rfl (by rfl) (by decide) rfl ?_
      refine z_goto (tgt := 17) S dX6_passDay_62 (by decide) ?_
      refine z_lv (ks := [0, 1, 2, 3]) rfl ?_
      exact hc _ (Option.some.inj he).symm
set_option maxRecDepth 100000 in
set_option maxHeartbeats 4000000 in
theorem p_X6_passDay_J68_123 {X : Cx} {p : Program} {l : Launch} {e : Env} {s : State} {m : MethodId} {args : Array Value} {below : List Frame} {meth : Method} {c : Code} (S : SB X 0 p s m args meth c cX6_passDay 7 (some .int) RX6) {M : Mm} {N : Mm} {r : Int32} {v1 : Nat} {v4 : Int32} {v5 : Int32} {t0 : Int32} {t1 : Int32} {t2 : Int32} {t3 : Nat} {x : (Mm × Int32) ⊕ Mm} (h_v1 : OK 0 v1 4) (h_t3 : OK 0 t3 4) (he : f_X6_passDay_J68_123 M v1 v4 v5 t0 t1 t2 t3 = some x) (hc : ∀ b, x = .inl b → Z X 0 p l e rm_X6_passDay s m args below meth c 0 0 (MQ below (QI X 0 r N s.heap.size) args s 0 0 (AA X 0 s.heap.size)) 7 b.1 68 [(0, .ref (X.2.2 82)), (1, .ref (X.2.2 v1)), (4, .int v4), (5, .int b.2)] []) (hx : ∀ b, x = .inr b → Z X 0 p l e rm_X6_passDay s m args below meth c 0 0 (MQ below (QI X 0 r N s.heap.size) args s 0 0 (AA X 0 s.heap.size)) 7 b 132 [(1, .ref (X.2.2 v1)), (4, .int v4)] []) : Z X 0 p l e rm_X6_passDay s m args below meth c 0 0 (MQ below (QI X 0 r N s.heap.size) args s 0 0 (AA X 0 s.heap.size)) 7 M 123 [(0, .ref (X.2.2 82)), (1, .ref (X.2.2 v1)), (4, .int v4), (5, .int v5)] [.int t0, .int t1, .int t2, .ref (X.2.2 t3)] := by
  unfold f_X6_passDay_J68_123 at he
  obtain ⟨M8, h9, he⟩ := bnd he
  refine z_cVV (As := [.int t2, .int t1, .int t0]) S cv_RX6_103 (K_X4_setThing h_t3 (Option.some.inj h9)) h_t3 (by decide) (q := (RX4, TX4, 10)) rfl rfl ⟨rfl, rfl⟩ ⟨Nat.le_of_ble_eq_true rfl, Nat.le_of_ble_eq_true rfl⟩ ⟨Nat.le_refl _, Nat.le_refl _⟩ rfl rfl (Nat.le_of_ble_eq_true rfl) dX6_passDay_123 ?_
  refine z_iinc (v := (v5 + 1)) (lv' := [(0, .ref (X.2.2 82)), (1, .ref (X.2.2 v1)), (4, .int v4), (5, .int (v5 + 1))]) S [1, 2, 3, 0] 3 dX6_passDay_126 rfl (by rfl) (by decide) rfl ?_
  refine z_goto (tgt := 68) S dX6_passDay_129 (by decide) ?_
  refine z_lv (ks := [0, 1, 2, 3]) rfl ?_
  exact hc _ (Option.some.inj he).symm
set_option maxRecDepth 100000 in
set_option maxHeartbeats 4000000 in
theorem p_X6_passDay_L68 {X : Cx} {p : Program} {l : Launch} {e : Env} {s : State} {m : MethodId} {args : Array Value} {below : List Frame} {meth : Method} {c : Code} (S : SB X 0 p s m args meth c cX6_passDay 7 (some .int) RX6) {M : Mm} {N : Mm} {r : Int32} {v1 : Nat} {v4 : Int32} {v5 : Int32} {x : (Mm × Int32) ⊕ Mm} (h_v1 : OK 0 v1 4) (he : f_X6_passDay_L68 M v1 v4 v5 = some x) (hc : ∀ b, x = .inl b → Z X 0 p l e rm_X6_passDay s m args below meth c 0 0 (MQ below (QI X 0 r N s.heap.size) args s 0 0 (AA X 0 s.heap.size)) 7 b.1 68 [(0, .ref (X.2.2 82)), (1, .ref (X.2.2 v1)), (4, .int v4), (5, .int b.2)] []) (hx : ∀ b, x = .inr b → Z X 0 p l e rm_X6_passDay s m args below meth c 0 0 (MQ below (QI X 0 r N s.heap.size) args s 0 0 (AA X 0 s.heap.size)) 7 b 132 [(1, .ref (X.2.2 v1)), (4, .int v4)] []) : Z X 0 p l e rm_X6_passDay s m args below meth c 0 0 (MQ below (QI X 0 r N s.heap.size) args s 0 0 (AA X 0 s.heap.size)) 7 M 68 [(0, .ref (X.2.2 82)), (1, .ref (X.2.2 v1)), (4, .int v4), (5, .int v5)] [] := by
  unfold f_X6_passDay_L68 at he
  refine z_iload S dX6_passDay_68 3 rfl ?_
  refine z_aload_n S dX6_passDay_70 rfl 1 rfl ?_
  refine z_getI S fo_RX6_24 rfl h_v1 dX6_passDay_71 ?_
  refine z_icmp_ge (tgt := 132) S he dX6_passDay_74 (by decide) (fun he => ?_) (fun he => ?_)
  · refine z_lv (ks := [1, 2]) rfl ?_
    exact hx _ (Option.some.inj he).symm
  · refine z_aload_n S dX6_passDay_77 rfl 1 rfl ?_
    refine z_iload S dX6_passDay_78 3 rfl ?_
    refine z_iconst (v := 3) S dX6_passDay_80 (by decide) ?_
    refine z_cVI (As := [.int v5, .int 3]) S cv_RX6_65 (K_X4_ofThing h_v1 rfl) h_v1 (by decide) (q := (RX4, TX4, 10)) rfl rfl ⟨rfl, rfl⟩ ⟨Nat.le_of_ble_eq_true rfl, Nat.le_of_ble_eq_true rfl⟩ ⟨Nat.le_refl _, Nat.le_refl _⟩ rfl rfl (Nat.le_of_ble_eq_true rfl) dX6_passDay_81 ?_
    refine z_iconst (v := 1) S dX6_passDay_84 (by decide) ?_
    refine z_icmp_ne (tgt := 126) S he dX6_passDay_85 (by decide) (fun he => ?_) (fun he => ?_)
    · refine z_iinc (v := (v5 + 1)) (lv' := [(0, .ref (X.2.2 82)), (1, .ref (X.2.2 v1)), (4, .int v4), (5, .int (v5 + 1))]) S [1, 2, 3, 0] 3 dX6_passDay_126 rfl (by rfl) (by decide) rfl ?_
      refine z_goto (tgt := 68) S dX6_passDay_129 (by decide) ?_
      refine z_lv (ks := [0, 1, 2, 3]) rfl ?_
      exact hc _ (Option.some.inj he).symm
    · refine z_aload_n S dX6_passDay_88 rfl 1 rfl ?_
      refine z_iload S dX6_passDay_89 3 rfl ?_
      refine z_iconst (v := 4) S dX6_passDay_91 (by decide) ?_
      refine z_cVI (As := [.int v5, .int 4]) S cv_RX6_65 (K_X4_ofThing h_v1 rfl) h_v1 (by decide) (q := (RX4, TX4, 10)) rfl rfl ⟨rfl, rfl⟩ ⟨Nat.le_of_ble_eq_true rfl, Nat.le_of_ble_eq_true rfl⟩ ⟨Nat.le_refl _, Nat.le_refl _⟩ rfl rfl (Nat.le_of_ble_eq_true rfl) dX6_passDay_92 ?_
      refine z_iconst (v := 1) S dX6_passDay_95 (by decide) ?_
      refine z_iadd S dX6_passDay_96 ?_
      refine z_bipush (v := 99) S dX6_passDay_97 (by decide) ?_
      refine z_mmin S cm_RX6_95 (Nat.le_of_ble_eq_true rfl) (Nat.le_of_ble_eq_true rfl) ⟨Nat.le_refl _, Nat.le_refl _⟩ dX6_passDay_99 ?_
      obtain ⟨x6, ex6, he⟩ := bnd he
      rw [Option.some.inj ex6]
      refine z_istore (lv' := [(0, .ref (X.2.2 82)), (1, .ref (X.2.2 v1)), (4, .int v4), (5, .int v5), (6, .int x6)]) S [1, 2, 3, 4, 0] dX6_passDay_102 (by decide) rfl ?_
      refine z_aload_n S dX6_passDay_104 rfl 1 rfl ?_
      refine z_iload S dX6_passDay_105 3 rfl ?_
      refine z_iconst (v := 4) S dX6_passDay_107 (by decide) ?_
      refine z_aload_n S dX6_passDay_108 rfl 0 rfl ?_
      refine z_iload S dX6_passDay_109 3 rfl ?_
      obtain ⟨r7, h9, he⟩ := bnd he
      refine z_cVI (As := [.int v5]) S cv_RX6_100 (K_X6_hadBy  h9) ok_82 (by decide) (q := (RX6, TX6, 4)) rfl rfl ⟨rfl, rfl⟩ ⟨Nat.le_of_ble_eq_true rfl, Nat.le_of_ble_eq_true rfl⟩ ⟨Nat.le_refl _, Nat.le_refl _⟩ rfl rfl (Nat.le_of_ble_eq_true rfl) dX6_passDay_111 ?_
      refine z_if_eq (tgt := 121) S he dX6_passDay_114 (by decide) (fun he => ?_) (fun he => ?_)
      · refine z_iload S dX6_passDay_121 4 rfl ?_
        refine z_lv (ks := [0, 1, 2, 3]) rfl ?_
        exact p_X6_passDay_J68_123 S h_v1 h_v1 he hc hx
      · refine z_iconst (v := 0) S dX6_passDay_117 (by decide) ?_
        refine z_goto (tgt := 123) S dX6_passDay_118 (by decide) ?_
        refine z_lv (ks := [0, 1, 2, 3]) rfl ?_
        exact p_X6_passDay_J68_123 S h_v1 h_v1 he hc hx
set_option maxRecDepth 100000 in
set_option maxHeartbeats 4000000 in
theorem K_X6_passDay {X : Cx} {l : Launch} {M : Mm} {a1 : Nat} {a2 : Nat} {a3 : Int32} {r : Int32} {N : Mm} (h_a1 : OK 0 a1 4) (h_a2 : OK 0 a2 2) (he : f_X6_passDay M a1 a2 a3 = some (r, N)) : KI X 0 l yX6_passDay (wz yX6_passDay cX6_passDay 7 (some .int)) rm_X6_passDay [.ref (X.2.2 82), .ref (X.2.2 a1), .ref (X.2.2 a2), .int a3] M r N := by
  intro sz
  refine K_of (Qc := (fun sz => QI X 0 r N sz)) (own := RX6) (lv0 := [(0, .ref (X.2.2 82)), (1, .ref (X.2.2 a1)), (2, .ref (X.2.2 a2)), (3, .int a3)]) (by decide +kernel) rfl (Nat.le_of_ble_eq_true rfl) rfl (fun p e s m args below meth c S => ?_) sz
  · unfold f_X6_passDay at he
    refine z_aload_n S dX6_passDay_0 rfl 0 rfl ?_
    refine z_aload_n S dX6_passDay_1 rfl 1 rfl ?_
    refine z_aload_n S dX6_passDay_2 rfl 2 rfl ?_
    obtain ⟨M1, h9, he⟩ := bnd he
    refine z_cVV (As := [.ref (X.2.2 a1), .ref (X.2.2 a2)]) S cv_RX6_83 (K_X6_weigh h_a1 h_a2 h9) ok_82 (by decide) (q := (RX6, TX6, 4)) rfl rfl ⟨rfl, rfl⟩ ⟨Nat.le_of_ble_eq_true rfl, Nat.le_of_ble_eq_true rfl⟩ ⟨Nat.le_refl _, Nat.le_refl _⟩ rfl rfl (Nat.le_of_ble_eq_true rfl) dX6_passDay_3 ?_
    refine z_aload_n S dX6_passDay_6 rfl 0 rfl ?_
    refine z_aload_n S dX6_passDay_7 rfl 1 rfl ?_
    refine z_iload_n S dX6_passDay_8 rfl 3 rfl ?_
    obtain ⟨⟨r2, M3⟩, h9, he⟩ := bnd he
    dsimp only at he
    refine z_cVI (As := [.ref (X.2.2 a1), .int a3]) S cv_RX6_87 (K_X6_lead h_a1 h9) ok_82 (by decide) (q := (RX6, TX6, 4)) rfl rfl ⟨rfl, rfl⟩ ⟨Nat.le_of_ble_eq_true rfl, Nat.le_of_ble_eq_true rfl⟩ ⟨Nat.le_refl _, Nat.le_refl _⟩ rfl rfl (Nat.le_of_ble_eq_true rfl) dX6_passDay_9 ?_
    refine z_istore (lv' := [(0, .ref (X.2.2 82)), (1, .ref (X.2.2 a1)), (4, .int r2)]) S [1, 2, 0] dX6_passDay_12 (by decide) rfl ?_
    refine z_iconst (v := 0) S dX6_passDay_14 (by decide) ?_
    refine z_istore (lv' := [(0, .ref (X.2.2 82)), (1, .ref (X.2.2 a1)), (4, .int r2), (5, .int 0)]) S [1, 2, 3, 0] dX6_passDay_15 (by decide) rfl ?_
    obtain ⟨e_5, hl, he⟩ := bnd he
    have hX : Z X 0 p l e rm_X6_passDay s m args below meth c 0 0 (MQ below (QI X 0 r N s.heap.size) args s 0 0 (AA X 0 s.heap.size)) 7 e_5 65 [(0, .ref (X.2.2 82)), (1, .ref (X.2.2 a1)), (4, .int r2)] [] := by
      refine z_iconst (v := 0) S dX6_passDay_65 (by decide) ?_
      refine z_istore (lv' := [(0, .ref (X.2.2 82)), (1, .ref (X.2.2 a1)), (4, .int r2), (5, .int 0)]) S [1, 2, 3, 0] dX6_passDay_66 (by decide) rfl ?_
      obtain ⟨e_9, hl, he⟩ := bnd he
      have hX : Z X 0 p l e rm_X6_passDay s m args below meth c 0 0 (MQ below (QI X 0 r N s.heap.size) args s 0 0 (AA X 0 s.heap.size)) 7 e_9 132 [(1, .ref (X.2.2 a1)), (4, .int r2)] [] := by
        refine z_aload_n S dX6_passDay_132 rfl 0 rfl ?_
        refine z_dup S rfl dX6_passDay_133 ?_
        refine z_getI S fo_RX6_106 rfl h_a1 dX6_passDay_134 ?_
        refine z_iconst (v := 1) S dX6_passDay_137 (by decide) ?_
        refine z_iadd S dX6_passDay_138 ?_
        refine z_putIb S fo_RX6_106p rfl h_a1 rfl rfl he dX6_passDay_139 (fun M10 he => ?_)
        refine z_iload S dX6_passDay_142 1 rfl ?_
        exact z_iret S (Prod.mk.inj (Option.some.inj he)) dX6_passDay_144
      have hZ9 := loopZ (f := (fun a_9 => f_X6_passDay_L68 a_9.1 a1 r2 a_9.2)) (Zh := (fun a_9 => Z X 0 p l e rm_X6_passDay s m args below meth c 0 0 (MQ below (QI X 0 r N s.heap.size) args s 0 0 (AA X 0 s.heap.size)) 7 a_9.1 68 [(0, .ref (X.2.2 82)), (1, .ref (X.2.2 a1)), (4, .int r2), (5, .int a_9.2)] [])) (fun a_9 x hb hc hr => p_X6_passDay_L68 S h_a1 hb hc (fun b hxe => by rw [hr b hxe]; exact hX)) FU (e_5, 0) hl
      exact hZ9
    have hZ9 := loopZ (f := (fun a_5 => f_X6_passDay_L17 a_5.1 a1 r2 a_5.2)) (Zh := (fun a_5 => Z X 0 p l e rm_X6_passDay s m args below meth c 0 0 (MQ below (QI X 0 r N s.heap.size) args s 0 0 (AA X 0 s.heap.size)) 7 a_5.1 17 [(0, .ref (X.2.2 82)), (1, .ref (X.2.2 a1)), (4, .int r2), (5, .int a_5.2)] [])) (fun a_5 x hb hc hr => p_X6_passDay_L17 S h_a1 hb hc (fun b hxe => by rw [hr b hxe]; exact hX)) FU (M3, 0) hl
    exact hZ9
set_option maxRecDepth 100000 in
set_option maxHeartbeats 4000000 in
theorem p_X9_needVisitor_J15 {X : Cx} {p : Program} {l : Launch} {e : Env} {s : State} {m : MethodId} {args : Array Value} {below : List Frame} {meth : Method} {c : Code} (hl0 : l.stackTraces = false) (T0 : ∀ x ∈ c.exceptionTable.toList, False) (S : SB X 0 p s m args meth c cX9_needVisitor 2 none RX9) {M : Mm} {rx : (Mm ⊕ (Nat × Mm))}  (he : f_X9_needVisitor_J15 M  = some rx) : Z X 0 p l e rm_X9_needVisitor s m args below meth c 0 0 (vx_MQ below (QXV X 0 rx s.heap.size) (XCX X 0 rx s.heap.size) args s 1 6 (AA X 0 s.heap.size)) 2 M 15 [] [] := by
  unfold f_X9_needVisitor_J15 at he
  exact z_throwW S hl0 T0 tx_RX9_226_372_230 (k := 2) rfl (Option.some.inj he) dX9_needVisitor_15 dX9_needVisitor_18 dX9_needVisitor_19 dX9_needVisitor_22 dX9_needVisitor_25 (Nat.le_of_ble_eq_true rfl) (Nat.le_of_ble_eq_true rfl) (Nat.le_of_ble_eq_true rfl) (Nat.le_of_ble_eq_true rfl) (by decide) (by decide)
set_option maxRecDepth 100000 in
set_option maxHeartbeats 4000000 in
theorem K_X9_needVisitor {X : Cx} {l : Launch} (hl0 : l.stackTraces = false) {M : Mm} {a1 : Int32} {rx : (Mm ⊕ (Nat × Mm))}  (he : f_X9_needVisitor M a1 = some rx) : KXV X 0 l yX9_needVisitor (wz yX9_needVisitor cX9_needVisitor 2 none) rm_X9_needVisitor 1 6 [.ref (X.2.2 1), .int a1] M rx := by
  intro sz
  refine KX_of (Qc := fun sz => QXV X 0 rx sz) (XC := fun sz => XCX X 0 rx sz) (own := RX9) (lv0 := [(0, .ref (X.2.2 1)), (1, .int a1)]) (by decide +kernel) rfl (Nat.le_of_ble_eq_true rfl) rfl (fun p e s m args below meth c S T0 => ?_) sz
  · unfold f_X9_needVisitor at he
    refine z_iload_n S dX9_needVisitor_0 rfl 1 rfl ?_
    refine z_if_lt (tgt := 15) S he dX9_needVisitor_1 (by decide) (fun he => ?_) (fun he => ?_)
    · refine z_lv (ks := []) rfl ?_
      exact p_X9_needVisitor_J15 hl0 T0 S  he
    · refine z_iload_n S dX9_needVisitor_4 rfl 1 rfl ?_
      refine z_aload_n S dX9_needVisitor_5 rfl 0 rfl ?_
      refine z_getGb (k2 := 4) S fo_RX9_20 rfl ok_1 (by decide) he dX9_needVisitor_6 (fun q1 hq1 he => ?_)
      refine z_getI S fo_RX9_289 rfl (okk4 hq1) dX9_needVisitor_9 ?_
      refine z_icmp_lt (tgt := 26) S he dX9_needVisitor_12 (by decide) (fun he => ?_) (fun he => ?_)
      · exact z_xvret S (Option.some.inj he) (by decide) (by decide) dX9_needVisitor_26
      · refine z_lv (ks := []) rfl ?_
        exact p_X9_needVisitor_J15 hl0 T0 S  he
set_option maxRecDepth 100000 in
set_option maxHeartbeats 4000000 in
theorem p_X9_ringing_L5 {X : Cx} {p : Program} {l : Launch} {e : Env} {s : State} {m : MethodId} {args : Array Value} {below : List Frame} {meth : Method} {c : Code} (S : SB X 0 p s m args meth c cX9_ringing 5 (some .int) RX9) {M : Mm} {N : Mm} {r : Int32} {v1 : Nat} {v2 : Int32} {v3 : Int32} {v4 : Int32} {x : (Mm × Int32 × Int32) ⊕ (Mm × Int32)} (h_v1 : OK 0 v1 4) (he : f_X9_ringing_L5 M v1 v2 v3 v4 = some x) (hc : ∀ b, x = .inl b → Z X 0 p l e rm_X9_ringing s m args below meth c 0 0 (MQ below (QI X 0 r N s.heap.size) args s 0 0 (AA X 0 s.heap.size)) 5 b.1 5 [(0, .ref (X.2.2 1)), (1, .ref (X.2.2 v1)), (2, .int v2), (3, .int b.2.1), (4, .int b.2.2)] []) (hx : ∀ b, x = .inr b → Z X 0 p l e rm_X9_ringing s m args below meth c 0 0 (MQ below (QI X 0 r N s.heap.size) args s 0 0 (AA X 0 s.heap.size)) 5 b.1 47 [(3, .int b.2)] []) : Z X 0 p l e rm_X9_ringing s m args below meth c 0 0 (MQ below (QI X 0 r N s.heap.size) args s 0 0 (AA X 0 s.heap.size)) 5 M 5 [(0, .ref (X.2.2 1)), (1, .ref (X.2.2 v1)), (2, .int v2), (3, .int v3), (4, .int v4)] [] := by
  unfold f_X9_ringing_L5 at he
  refine z_iload S dX9_ringing_5 4 rfl ?_
  refine z_aload_n S dX9_ringing_7 rfl 1 rfl ?_
  refine z_getI S fo_RX9_191 rfl h_v1 dX9_ringing_8 ?_
  refine z_icmp_ge (tgt := 47) S he dX9_ringing_11 (by decide) (fun he => ?_) (fun he => ?_)
  · refine z_lv (ks := [3]) rfl ?_
    exact hx _ (Option.some.inj he).symm
  · refine z_aload_n S dX9_ringing_14 rfl 1 rfl ?_
    refine z_iload S dX9_ringing_15 4 rfl ?_
    refine z_aload_n S dX9_ringing_17 rfl 0 rfl ?_
    refine z_getGb (k2 := 2) S fo_RX9_30 rfl ok_1 (by decide) he dX9_ringing_18 (fun q1 hq1 he => ?_)
    refine z_aload_n S dX9_ringing_21 rfl 1 rfl ?_
    refine z_iload S dX9_ringing_22 4 rfl ?_
    refine z_iload_n S dX9_ringing_24 rfl 2 rfl ?_
    obtain ⟨⟨r2, M3⟩, h9, he⟩ := bnd he
    dsimp only at he
    refine z_cVI (As := [.ref (X.2.2 v1), .int v4, .int v2]) S cv_RX9_187 (K_X2_weighs (okk2 hq1) h_v1 h9) (okk2 hq1) (by decide) (q := (RX2, TX2, 7)) rfl rfl ⟨rfl, rfl⟩ ⟨Nat.le_of_ble_eq_true rfl, Nat.le_of_ble_eq_true rfl⟩ ⟨Nat.le_refl _, Nat.le_refl _⟩ rfl rfl (Nat.le_of_ble_eq_true rfl) dX9_ringing_25 ?_
    refine z_cVI (As := [.int v4, .int r2]) S cv_RX9_194 (K_X4_rings h_v1 rfl) h_v1 (by decide) (q := (RX4, TX4, 10)) rfl rfl ⟨rfl, rfl⟩ ⟨Nat.le_of_ble_eq_true rfl, Nat.le_of_ble_eq_true rfl⟩ ⟨Nat.le_refl _, Nat.le_refl _⟩ rfl rfl (Nat.le_of_ble_eq_true rfl) dX9_ringing_28 ?_
    refine z_ifb_eq (tgt := 41) S he dX9_ringing_31 (by decide) (fun he => ?_) (fun he => ?_)
    · refine z_iinc (v := (v4 + 1)) (lv' := [(0, .ref (X.2.2 1)), (1, .ref (X.2.2 v1)), (2, .int v2), (3, .int v3), (4, .int (v4 + 1))]) S [1, 2, 3, 4, 0] 4 dX9_ringing_41 rfl (by rfl) (by decide) rfl ?_
      refine z_goto (tgt := 5) S dX9_ringing_44 (by decide) ?_
      refine z_lv (ks := [0, 1, 2, 3, 4]) rfl ?_
      exact hc _ (Option.some.inj he).symm
    · refine z_iload_n S dX9_ringing_34 rfl 3 rfl ?_
      refine z_iconst (v := 1) S dX9_ringing_35 (by decide) ?_
      refine z_iload S dX9_ringing_36 4 rfl ?_
      refine z_ishl S dX9_ringing_38 ?_
      refine z_ior S dX9_ringing_39 ?_
      obtain ⟨x4, ex4, he⟩ := bnd he
      rw [Option.some.inj ex4]
      refine z_istore_n (lv' := [(0, .ref (X.2.2 1)), (1, .ref (X.2.2 v1)), (2, .int v2), (3, .int x4), (4, .int v4)]) S [1, 2, 3, 0, 4] dX9_ringing_40 rfl (by decide) rfl ?_
      refine z_iinc (v := (v4 + 1)) (lv' := [(0, .ref (X.2.2 1)), (1, .ref (X.2.2 v1)), (2, .int v2), (3, .int x4), (4, .int (v4 + 1))]) S [1, 2, 3, 4, 0] 4 dX9_ringing_41 rfl (by rfl) (by decide) rfl ?_
      refine z_goto (tgt := 5) S dX9_ringing_44 (by decide) ?_
      refine z_lv (ks := [0, 1, 2, 3, 4]) rfl ?_
      exact hc _ (Option.some.inj he).symm
set_option maxRecDepth 100000 in
set_option maxHeartbeats 4000000 in
theorem K_X9_ringing {X : Cx} {l : Launch} {M : Mm} {a1 : Nat} {a2 : Int32} {r : Int32} {N : Mm} (h_a1 : OK 0 a1 4) (he : f_X9_ringing M a1 a2 = some (r, N)) : KI X 0 l yX9_ringing (wz yX9_ringing cX9_ringing 5 (some .int)) rm_X9_ringing [.ref (X.2.2 1), .ref (X.2.2 a1), .int a2] M r N := by
  intro sz
  refine K_of (Qc := (fun sz => QI X 0 r N sz)) (own := RX9) (lv0 := [(0, .ref (X.2.2 1)), (1, .ref (X.2.2 a1)), (2, .int a2)]) (by decide +kernel) rfl (Nat.le_of_ble_eq_true rfl) rfl (fun p e s m args below meth c S => ?_) sz
  · unfold f_X9_ringing at he
    refine z_iconst (v := 0) S dX9_ringing_0 (by decide) ?_
    refine z_istore_n (lv' := [(0, .ref (X.2.2 1)), (1, .ref (X.2.2 a1)), (2, .int a2), (3, .int 0)]) S [1, 2, 3, 0] dX9_ringing_1 rfl (by decide) rfl ?_
    refine z_iconst (v := 0) S dX9_ringing_2 (by decide) ?_
    refine z_istore (lv' := [(0, .ref (X.2.2 1)), (1, .ref (X.2.2 a1)), (2, .int a2), (3, .int 0), (4, .int 0)]) S [1, 2, 3, 4, 0] dX9_ringing_3 (by decide) rfl ?_
    obtain ⟨e_5, hl, he⟩ := bnd he
    have hX : Z X 0 p l e rm_X9_ringing s m args below meth c 0 0 (MQ below (QI X 0 r N s.heap.size) args s 0 0 (AA X 0 s.heap.size)) 5 e_5.1 47 [(3, .int e_5.2)] [] := by
      refine z_iload_n S dX9_ringing_47 rfl 0 rfl ?_
      exact z_iret S (Prod.mk.inj (Option.some.inj he)) dX9_ringing_48
    have hZ9 := loopZ (f := (fun a_5 => f_X9_ringing_L5 a_5.1 a1 a2 a_5.2.1 a_5.2.2)) (Zh := (fun a_5 => Z X 0 p l e rm_X9_ringing s m args below meth c 0 0 (MQ below (QI X 0 r N s.heap.size) args s 0 0 (AA X 0 s.heap.size)) 5 a_5.1 5 [(0, .ref (X.2.2 1)), (1, .ref (X.2.2 a1)), (2, .int a2), (3, .int a_5.2.1), (4, .int a_5.2.2)] [])) (fun a_5 x hb hc hr => p_X9_ringing_L5 S h_a1 hb hc (fun b hxe => by rw [hr b hxe]; exact hX)) FU (M, 0, 0) hl
    exact hZ9
set_option maxRecDepth 100000 in
set_option maxHeartbeats 4000000 in
theorem p_X9_about_J14 {X : Cx} {p : Program} {l : Launch} {e : Env} {s : State} {m : MethodId} {args : Array Value} {below : List Frame} {meth : Method} {c : Code} (hl0 : l.stackTraces = false) (T0 : ∀ x ∈ c.exceptionTable.toList, False) (S : SB X 0 p s m args meth c cX9_about 9 (some .int) RX9) {M : Mm} {rx : ((Int32 × Mm) ⊕ (Nat × Mm))}  (he : f_X9_about_J14 M  = some rx) : Z X 0 p l e rm_X9_about s m args below meth c 1 6 (vx_MQ below (QXI X 0 rx s.heap.size) (XCX X 0 rx s.heap.size) args s 2 12 (AA X 0 s.heap.size)) 9 M 14 [] [] := by
  unfold f_X9_about_J14 at he
  exact z_throwNW S hl0 T0 tx_RX9_142_324_146 (k := 4) rfl (Option.some.inj he) dX9_about_14 dX9_about_17 dX9_about_18 dX9_about_21 dX9_about_24 (Nat.le_of_ble_eq_true rfl) (Nat.le_of_ble_eq_true rfl) (Nat.le_of_ble_eq_true rfl) (Nat.le_of_ble_eq_true rfl) (by decide) (by decide)
set_option maxRecDepth 100000 in
set_option maxHeartbeats 4000000 in
theorem p_X9_about_L64 {X : Cx} {p : Program} {l : Launch} {e : Env} {s : State} {m : MethodId} {args : Array Value} {below : List Frame} {meth : Method} {c : Code} (hl0 : l.stackTraces = false) (T0 : ∀ x ∈ c.exceptionTable.toList, False) (S : SB X 0 p s m args meth c cX9_about 9 (some .int) RX9) {M : Mm} {rx : ((Int32 × Mm) ⊕ (Nat × Mm))} {v1 : Int32} {v3 : Int32} {v4 : Int32} {v5 : Int32} {v6 : Int32} {v7 : Int32} {v8 : Int32} {x : (Mm × Int32 × Int32 × Int32 × Int32) ⊕ (Mm × Int32 × Int32 × Int32)}  (he : f_X9_about_L64 M v1 v3 v4 v5 v6 v7 v8 = some x) (hc : ∀ b, x = .inl b → Z X 0 p l e rm_X9_about s m args below meth c 1 6 (vx_MQ below (QXI X 0 rx s.heap.size) (XCX X 0 rx s.heap.size) args s 2 12 (AA X 0 s.heap.size)) 9 b.1 64 [(0, .ref (X.2.2 1)), (1, .int v1), (3, .int v3), (4, .int v4), (5, .int b.2.1), (6, .int b.2.2.1), (7, .int b.2.2.2.1), (8, .int b.2.2.2.2)] []) (hx : ∀ b, x = .inr b → Z X 0 p l e rm_X9_about s m args below meth c 1 6 (vx_MQ below (QXI X 0 rx s.heap.size) (XCX X 0 rx s.heap.size) args s 2 12 (AA X 0 s.heap.size)) 9 b.1 119 [(3, .int v3), (5, .int b.2.1), (6, .int b.2.2.1), (7, .int b.2.2.2)] []) : Z X 0 p l e rm_X9_about s m args below meth c 1 6 (vx_MQ below (QXI X 0 rx s.heap.size) (XCX X 0 rx s.heap.size) args s 2 12 (AA X 0 s.heap.size)) 9 M 64 [(0, .ref (X.2.2 1)), (1, .int v1), (3, .int v3), (4, .int v4), (5, .int v5), (6, .int v6), (7, .int v7), (8, .int v8)] [] := by
  unfold f_X9_about_L64 at he
  refine z_iload S dX9_about_64 7 rfl ?_
  refine z_bipush (v := 64) S dX9_about_66 (by decide) ?_
  refine z_icmp_ge (tgt := 119) S he dX9_about_68 (by decide) (fun he => ?_) (fun he => ?_)
  · refine z_lv (ks := [2, 4, 5, 6]) rfl ?_
    exact hx _ (Option.some.inj he).symm
  · refine z_aload_n S dX9_about_71 rfl 0 rfl ?_
    refine z_getGb (k2 := 4) S fo_RX9_24 rfl ok_1 (by decide) he dX9_about_72 (fun q7 hq7 he => ?_)
    refine z_iload_n S dX9_about_75 rfl 1 rfl ?_
    refine z_iconst (v := 4) S dX9_about_76 (by decide) ?_
    refine z_iload S dX9_about_77 7 rfl ?_
    obtain ⟨M8, h9, he⟩ := bnd he
    refine z_cVV (As := [.int v1, .int 4, .int v8]) S cv_RX9_223 (K_X4_setVisitor (okk4 hq7) (Option.some.inj h9)) (okk4 hq7) (by decide) (q := (RX4, TX4, 10)) rfl rfl ⟨rfl, rfl⟩ ⟨Nat.le_of_ble_eq_true rfl, Nat.le_of_ble_eq_true rfl⟩ ⟨Nat.le_of_ble_eq_true rfl, Nat.le_of_ble_eq_true rfl⟩ rfl rfl (Nat.le_of_ble_eq_true rfl) dX9_about_79 ?_
    refine z_aload_n S dX9_about_82 rfl 0 rfl ?_
    refine z_aload_n S dX9_about_83 rfl 0 rfl ?_
    refine z_getGb (k2 := 4) S fo_RX9_24 rfl ok_1 (by decide) he dX9_about_84 (fun q9 hq9 he => ?_)
    refine z_iload_n S dX9_about_87 rfl 1 rfl ?_
    obtain ⟨⟨r10, M11⟩, h9, he⟩ := bnd he
    dsimp only at he
    refine z_cVI (As := [.ref (X.2.2 q9), .int v1]) S cv_RX9_177 (K_X9_ringing (okk4 hq9) h9) ok_1 (by decide) (q := (RX9, TX9, 17)) rfl rfl ⟨rfl, rfl⟩ ⟨Nat.le_of_ble_eq_true rfl, Nat.le_of_ble_eq_true rfl⟩ ⟨Nat.le_of_ble_eq_true rfl, Nat.le_of_ble_eq_true rfl⟩ rfl rfl (Nat.le_of_ble_eq_true rfl) dX9_about_88 ?_
    refine z_iload S dX9_about_91 3 rfl ?_
    refine z_icmp_ne (tgt := 113) S he dX9_about_93 (by decide) (fun he => ?_) (fun he => ?_)
    · refine z_iinc (v := (v8 + 1)) (lv' := [(0, .ref (X.2.2 1)), (1, .int v1), (3, .int v3), (4, .int v4), (5, .int v5), (6, .int v6), (7, .int v7), (8, .int (v8 + 1))]) S [1, 2, 3, 4, 5, 6, 7, 0] 7 dX9_about_113 rfl (by rfl) (by decide) rfl ?_
      refine z_goto (tgt := 64) S dX9_about_116 (by decide) ?_
      refine z_lv (ks := [0, 1, 2, 3, 4, 5, 6, 7]) rfl ?_
      exact hc _ (Option.some.inj he).symm
    · refine z_iinc (v := (v5 + 1)) (lv' := [(0, .ref (X.2.2 1)), (1, .int v1), (3, .int v3), (4, .int v4), (5, .int (v5 + 1)), (6, .int v6), (7, .int v7), (8, .int v8)]) S [1, 2, 3, 4, 0, 5, 6, 7] 4 dX9_about_96 rfl (by rfl) (by decide) rfl ?_
      refine z_iload S dX9_about_99 5 rfl ?_
      refine z_iload S dX9_about_101 7 rfl ?_
      refine z_iand S dX9_about_103 ?_
      refine z_istore (lv' := [(0, .ref (X.2.2 1)), (1, .int v1), (3, .int v3), (4, .int v4), (5, .int (v5 + 1)), (6, .int (v6 &&& v8)), (7, .int v7), (8, .int v8)]) S [1, 2, 3, 4, 5, 0, 6, 7] dX9_about_104 (by decide) rfl ?_
      refine z_iload S dX9_about_106 6 rfl ?_
      refine z_iload S dX9_about_108 7 rfl ?_
      refine z_ior S dX9_about_110 ?_
      refine z_istore (lv' := [(0, .ref (X.2.2 1)), (1, .int v1), (3, .int v3), (4, .int v4), (5, .int (v5 + 1)), (6, .int (v6 &&& v8)), (7, .int (v7 ||| v8)), (8, .int v8)]) S [1, 2, 3, 4, 5, 6, 0, 7] dX9_about_111 (by decide) rfl ?_
      refine z_iinc (v := (v8 + 1)) (lv' := [(0, .ref (X.2.2 1)), (1, .int v1), (3, .int v3), (4, .int v4), (5, .int (v5 + 1)), (6, .int (v6 &&& v8)), (7, .int (v7 ||| v8)), (8, .int (v8 + 1))]) S [1, 2, 3, 4, 5, 6, 7, 0] 7 dX9_about_113 rfl (by rfl) (by decide) rfl ?_
      refine z_goto (tgt := 64) S dX9_about_116 (by decide) ?_
      refine z_lv (ks := [0, 1, 2, 3, 4, 5, 6, 7]) rfl ?_
      exact hc _ (Option.some.inj he).symm
set_option maxRecDepth 100000 in
set_option maxHeartbeats 4000000 in
theorem K_X9_about {X : Cx} {l : Launch} (hl0 : l.stackTraces = false) {M : Mm} {a1 : Int32} {a2 : Int32} {a3 : Int32} {rx : ((Int32 × Mm) ⊕ (Nat × Mm))}  (he : f_X9_about M a1 a2 a3 = some rx) : KXI X 0 l yX9_about (wz yX9_about cX9_about 9 (some .int)) rm_X9_about 2 12 [.ref (X.2.2 1), .int a1, .int a2, .int a3] M rx := by
  intro sz
  refine KX_of (Qc := fun sz => QXI X 0 rx sz) (XC := fun sz => XCX X 0 rx sz) (own := RX9) (lv0 := [(0, .ref (X.2.2 1)), (1, .int a1), (2, .int a2), (3, .int a3)]) (by decide +kernel) rfl (Nat.le_of_ble_eq_true rfl) rfl (fun p e s m args below meth c S T0 => ?_) sz
  · unfold f_X9_about at he
    refine z_aload_n S dX9_about_0 rfl 0 rfl ?_
    refine z_iload_n S dX9_about_1 rfl 1 rfl ?_
    obtain ⟨r9, h9, hr1, hr2⟩ := bndS he
    refine z_xVV (As := [.int a1]) S cv_RX9_169 (K_X9_needVisitor hl0  h9) ok_1 (by decide) (q := (RX9, TX9, 17)) rfl rfl ⟨rfl, rfl⟩ ⟨Nat.le_of_ble_eq_true rfl, Nat.le_of_ble_eq_true rfl⟩ ⟨Nat.le_of_ble_eq_true rfl, Nat.le_of_ble_eq_true rfl⟩ rfl rfl (Nat.le_of_ble_eq_true rfl) dX9_about_2 T0 (by decide) (by decide) (fun q hq => Option.some.inj (hr2 q hq)) (fun e_0 hE => ?_)
    have he := hr1 _ hE
    refine z_iload_n S dX9_about_5 rfl 3 rfl ?_
    refine z_if_lt (tgt := 14) S he dX9_about_6 (by decide) (fun he => ?_) (fun he => ?_)
    · refine z_lv (ks := []) rfl ?_
      exact p_X9_about_J14 hl0 T0 S  he
    · refine z_iload_n S dX9_about_9 rfl 3 rfl ?_
      refine z_iconst (v := 2) S dX9_about_10 (by decide) ?_
      refine z_icmp_le (tgt := 25) S he dX9_about_11 (by decide) (fun he => ?_) (fun he => ?_)
      · refine z_iload_n S dX9_about_25 rfl 2 rfl ?_
        refine z_iconst (v := 1) S dX9_about_26 (by decide) ?_
        refine z_aload_n S dX9_about_27 rfl 0 rfl ?_
        refine z_getGb (k2 := 4) S fo_RX9_20 rfl ok_1 (by decide) he dX9_about_28 (fun q2 hq2 he => ?_)
        refine z_getI S fo_RX9_191 rfl (okk4 hq2) dX9_about_31 ?_
        refine z_ishl S dX9_about_34 ?_
        refine z_iconst (v := 1) S dX9_about_35 (by decide) ?_
        refine z_isub S dX9_about_36 ?_
        refine z_iand S dX9_about_37 ?_
        obtain ⟨x3, ex3, he⟩ := bnd he
        rw [Option.some.inj ex3]
        refine z_istore (lv' := [(0, .ref (X.2.2 1)), (1, .int a1), (3, .int a3), (4, .int x3)]) S [1, 2, 4, 0] dX9_about_38 (by decide) rfl ?_
        refine z_iconst (v := 0) S dX9_about_40 (by decide) ?_
        refine z_istore (lv' := [(0, .ref (X.2.2 1)), (1, .int a1), (3, .int a3), (4, .int x3), (5, .int 0)]) S [1, 2, 3, 4, 0] dX9_about_41 (by decide) rfl ?_
        refine z_bipush (v := 63) S dX9_about_43 (by decide) ?_
        refine z_istore (lv' := [(0, .ref (X.2.2 1)), (1, .int a1), (3, .int a3), (4, .int x3), (5, .int 0), (6, .int 63)]) S [1, 2, 3, 4, 5, 0] dX9_about_45 (by decide) rfl ?_
        refine z_iconst (v := 0) S dX9_about_47 (by decide) ?_
        refine z_istore (lv' := [(0, .ref (X.2.2 1)), (1, .int a1), (3, .int a3), (4, .int x3), (5, .int 0), (6, .int 63), (7, .int 0)]) S [1, 2, 3, 4, 5, 6, 0] dX9_about_48 (by decide) rfl ?_
        refine z_aload_n S dX9_about_50 rfl 0 rfl ?_
        refine z_getGb (k2 := 4) S fo_RX9_24 rfl ok_1 (by decide) he dX9_about_51 (fun q4 hq4 he => ?_)
        refine z_aload_n S dX9_about_54 rfl 0 rfl ?_
        refine z_getGb (k2 := 4) S fo_RX9_20 rfl ok_1 (by decide) he dX9_about_55 (fun q5 hq5 he => ?_)
        obtain ⟨M6, h9, he⟩ := bnd he
        refine z_cVV (As := [.ref (X.2.2 q5)]) S cv_RX9_93 (K_X4_copyFrom (okk4 hq4) (okk4 hq5) h9) (okk4 hq4) (by decide) (q := (RX4, TX4, 10)) rfl rfl ⟨rfl, rfl⟩ ⟨Nat.le_of_ble_eq_true rfl, Nat.le_of_ble_eq_true rfl⟩ ⟨Nat.le_of_ble_eq_true rfl, Nat.le_of_ble_eq_true rfl⟩ rfl rfl (Nat.le_of_ble_eq_true rfl) dX9_about_58 ?_
        refine z_iconst (v := 0) S dX9_about_61 (by decide) ?_
        refine z_istore (lv' := [(0, .ref (X.2.2 1)), (1, .int a1), (3, .int a3), (4, .int x3), (5, .int 0), (6, .int 63), (7, .int 0), (8, .int 0)]) S [1, 2, 3, 4, 5, 6, 7, 0] dX9_about_62 (by decide) rfl ?_
        obtain ⟨e_12, hl, he⟩ := bnd he
        have hX : Z X 0 p l e rm_X9_about s m args below meth c 1 6 (vx_MQ below (QXI X 0 rx s.heap.size) (XCX X 0 rx s.heap.size) args s 2 12 (AA X 0 s.heap.size)) 9 e_12.1 119 [(3, .int a3), (5, .int e_12.2.1), (6, .int e_12.2.2.1), (7, .int e_12.2.2.2)] [] := by
          refine z_iload_n S dX9_about_119 rfl 0 rfl ?_
          refine z_if_eq (tgt := 128) S he dX9_about_120 (by decide) (fun he => ?_) (fun he => ?_)
          · refine z_iload S dX9_about_128 1 rfl ?_
            exact z_xiret S (Option.some.inj he) (by decide) (by decide) dX9_about_130
          · refine z_iload S dX9_about_123 1 rfl ?_
            refine z_if_ne (tgt := 131) S he dX9_about_125 (by decide) (fun he => ?_) (fun he => ?_)
            · refine z_iload_n S dX9_about_131 rfl 0 rfl ?_
              refine z_iconst (v := 1) S dX9_about_132 (by decide) ?_
              refine z_icmp_ne (tgt := 141) S he dX9_about_133 (by decide) (fun he => ?_) (fun he => ?_)
              · refine z_iload S dX9_about_141 3 rfl ?_
                exact z_xiret S (Option.some.inj he) (by decide) (by decide) dX9_about_143
              · refine z_iload S dX9_about_136 2 rfl ?_
                refine z_goto (tgt := 143) S dX9_about_138 (by decide) ?_
                exact z_xiret S (Option.some.inj he) (by decide) (by decide) dX9_about_143
            · refine z_iload S dX9_about_128 1 rfl ?_
              exact z_xiret S (Option.some.inj he) (by decide) (by decide) dX9_about_130
        have hZ9 := loopZ (f := (fun a_12 => f_X9_about_L64 a_12.1 a1 a3 x3 a_12.2.1 a_12.2.2.1 a_12.2.2.2.1 a_12.2.2.2.2)) (Zh := (fun a_12 => Z X 0 p l e rm_X9_about s m args below meth c 1 6 (vx_MQ below (QXI X 0 rx s.heap.size) (XCX X 0 rx s.heap.size) args s 2 12 (AA X 0 s.heap.size)) 9 a_12.1 64 [(0, .ref (X.2.2 1)), (1, .int a1), (3, .int a3), (4, .int x3), (5, .int a_12.2.1), (6, .int a_12.2.2.1), (7, .int a_12.2.2.2.1), (8, .int a_12.2.2.2.2)] [])) (fun a_12 x hb hc hr => p_X9_about_L64 hl0 T0 S  hb hc (fun b hxe => by rw [hr b hxe]; exact hX)) FU (M6, 0, 63, 0, 0) hl
        exact hZ9
      · refine z_lv (ks := []) rfl ?_
        exact p_X9_about_J14 hl0 T0 S  he
set_option maxRecDepth 100000 in
set_option maxHeartbeats 4000000 in
theorem p_X9_needThing_J15 {X : Cx} {p : Program} {l : Launch} {e : Env} {s : State} {m : MethodId} {args : Array Value} {below : List Frame} {meth : Method} {c : Code} (hl0 : l.stackTraces = false) (T0 : ∀ x ∈ c.exceptionTable.toList, False) (S : SB X 0 p s m args meth c cX9_needThing 2 none RX9) {M : Mm} {rx : (Mm ⊕ (Nat × Mm))}  (he : f_X9_needThing_J15 M  = some rx) : Z X 0 p l e rm_X9_needThing s m args below meth c 0 0 (vx_MQ below (QXV X 0 rx s.heap.size) (XCX X 0 rx s.heap.size) args s 1 6 (AA X 0 s.heap.size)) 2 M 15 [] [] := by
  unfold f_X9_needThing_J15 at he
  exact z_throwW S hl0 T0 tx_RX9_226_370_230 (k := 2) rfl (Option.some.inj he) dX9_needThing_15 dX9_needThing_18 dX9_needThing_19 dX9_needThing_22 dX9_needThing_25 (Nat.le_of_ble_eq_true rfl) (Nat.le_of_ble_eq_true rfl) (Nat.le_of_ble_eq_true rfl) (Nat.le_of_ble_eq_true rfl) (by decide) (by decide)
set_option maxRecDepth 100000 in
set_option maxHeartbeats 4000000 in
theorem K_X9_needThing {X : Cx} {l : Launch} (hl0 : l.stackTraces = false) {M : Mm} {a1 : Int32} {rx : (Mm ⊕ (Nat × Mm))}  (he : f_X9_needThing M a1 = some rx) : KXV X 0 l yX9_needThing (wz yX9_needThing cX9_needThing 2 none) rm_X9_needThing 1 6 [.ref (X.2.2 1), .int a1] M rx := by
  intro sz
  refine KX_of (Qc := fun sz => QXV X 0 rx sz) (XC := fun sz => XCX X 0 rx sz) (own := RX9) (lv0 := [(0, .ref (X.2.2 1)), (1, .int a1)]) (by decide +kernel) rfl (Nat.le_of_ble_eq_true rfl) rfl (fun p e s m args below meth c S T0 => ?_) sz
  · unfold f_X9_needThing at he
    refine z_iload_n S dX9_needThing_0 rfl 1 rfl ?_
    refine z_if_lt (tgt := 15) S he dX9_needThing_1 (by decide) (fun he => ?_) (fun he => ?_)
    · refine z_lv (ks := []) rfl ?_
      exact p_X9_needThing_J15 hl0 T0 S  he
    · refine z_iload_n S dX9_needThing_4 rfl 1 rfl ?_
      refine z_aload_n S dX9_needThing_5 rfl 0 rfl ?_
      refine z_getGb (k2 := 4) S fo_RX9_20 rfl ok_1 (by decide) he dX9_needThing_6 (fun q1 hq1 he => ?_)
      refine z_getI S fo_RX9_191 rfl (okk4 hq1) dX9_needThing_9 ?_
      refine z_icmp_lt (tgt := 26) S he dX9_needThing_12 (by decide) (fun he => ?_) (fun he => ?_)
      · exact z_xvret S (Option.some.inj he) (by decide) (by decide) dX9_needThing_26
      · refine z_lv (ks := []) rfl ?_
        exact p_X9_needThing_J15 hl0 T0 S  he
set_option maxRecDepth 100000 in
set_option maxHeartbeats 4000000 in
theorem p_X9_needDaysAhead_J10 {X : Cx} {p : Program} {l : Launch} {e : Env} {s : State} {m : MethodId} {args : Array Value} {below : List Frame} {meth : Method} {c : Code} (hl0 : l.stackTraces = false) (T0 : ∀ x ∈ c.exceptionTable.toList, False) (S : SB X 0 p s m args meth c cX9_needDaysAhead 1 none RX9) {M : Mm} {rx : (Mm ⊕ (Nat × Mm))}  (he : f_X9_needDaysAhead_J10 M  = some rx) : Z X 0 p l e rm_X9_needDaysAhead s m args below meth c 0 0 (vx_MQ below (QXV X 0 rx s.heap.size) (XCX X 0 rx s.heap.size) args s 1 6 (AA X 0 s.heap.size)) 1 M 10 [] [] := by
  unfold f_X9_needDaysAhead_J10 at he
  exact z_throwW S hl0 T0 tx_RX9_114_376_118 (k := 1) rfl (Option.some.inj he) dX9_needDaysAhead_10 dX9_needDaysAhead_13 dX9_needDaysAhead_14 dX9_needDaysAhead_17 dX9_needDaysAhead_20 (Nat.le_of_ble_eq_true rfl) (Nat.le_of_ble_eq_true rfl) (Nat.le_of_ble_eq_true rfl) (Nat.le_of_ble_eq_true rfl) (by decide) (by decide)
set_option maxRecDepth 100000 in
set_option maxHeartbeats 4000000 in
theorem K_X9_needDaysAhead {X : Cx} {l : Launch} (hl0 : l.stackTraces = false) {M : Mm} {a0 : Int32} {rx : (Mm ⊕ (Nat × Mm))}  (he : f_X9_needDaysAhead M a0 = some rx) : KXV X 0 l yX9_needDaysAhead (wz yX9_needDaysAhead cX9_needDaysAhead 1 none) rm_X9_needDaysAhead 1 6 [.int a0] M rx := by
  intro sz
  refine KX_of (Qc := fun sz => QXV X 0 rx sz) (XC := fun sz => XCX X 0 rx sz) (own := RX9) (lv0 := [(0, .int a0)]) (by decide +kernel) rfl (Nat.le_of_ble_eq_true rfl) rfl (fun p e s m args below meth c S T0 => ?_) sz
  · unfold f_X9_needDaysAhead at he
    refine z_iload_n S dX9_needDaysAhead_0 rfl 0 rfl ?_
    refine z_if_lt (tgt := 10) S he dX9_needDaysAhead_1 (by decide) (fun he => ?_) (fun he => ?_)
    · refine z_lv (ks := []) rfl ?_
      exact p_X9_needDaysAhead_J10 hl0 T0 S  he
    · refine z_iload_n S dX9_needDaysAhead_4 rfl 0 rfl ?_
      refine z_bipush (v := 30) S dX9_needDaysAhead_5 (by decide) ?_
      refine z_icmp_le (tgt := 21) S he dX9_needDaysAhead_7 (by decide) (fun he => ?_) (fun he => ?_)
      · exact z_xvret S (Option.some.inj he) (by decide) (by decide) dX9_needDaysAhead_21
      · refine z_lv (ks := []) rfl ?_
        exact p_X9_needDaysAhead_J10 hl0 T0 S  he
set_option maxRecDepth 100000 in
set_option maxHeartbeats 4000000 in
theorem p_X9_ahead_J18 {X : Cx} {p : Program} {l : Launch} {e : Env} {s : State} {m : MethodId} {args : Array Value} {below : List Frame} {meth : Method} {c : Code} (hl0 : l.stackTraces = false) (T0 : ∀ x ∈ c.exceptionTable.toList, False) (S : SB X 0 p s m args meth c cX9_ahead 5 (some .int) RX9) {M : Mm} {rx : ((Int32 × Mm) ⊕ (Nat × Mm))}  (he : f_X9_ahead_J18 M  = some rx) : Z X 0 p l e rm_X9_ahead s m args below meth c 2 12 (vx_MQ below (QXI X 0 rx s.heap.size) (XCX X 0 rx s.heap.size) args s 3 18 (AA X 0 s.heap.size)) 5 M 18 [] [] := by
  unfold f_X9_ahead_J18 at he
  exact z_throwNW S hl0 T0 tx_RX9_142_329_146 (k := 4) rfl (Option.some.inj he) dX9_ahead_18 dX9_ahead_21 dX9_ahead_22 dX9_ahead_25 dX9_ahead_28 (Nat.le_of_ble_eq_true rfl) (Nat.le_of_ble_eq_true rfl) (Nat.le_of_ble_eq_true rfl) (Nat.le_of_ble_eq_true rfl) (by decide) (by decide)
set_option maxRecDepth 100000 in
set_option maxHeartbeats 4000000 in
theorem p_X9_ahead_L43 {X : Cx} {p : Program} {l : Launch} {e : Env} {s : State} {m : MethodId} {args : Array Value} {below : List Frame} {meth : Method} {c : Code} (hl0 : l.stackTraces = false) (T0 : ∀ x ∈ c.exceptionTable.toList, False) (S : SB X 0 p s m args meth c cX9_ahead 5 (some .int) RX9) {M : Mm} {rx : ((Int32 × Mm) ⊕ (Nat × Mm))} {v1 : Int32} {v2 : Int32} {v3 : Int32} {v4 : Int32} {x : (Mm × Int32) ⊕ Mm}  (he : f_X9_ahead_L43 M v1 v2 v3 v4 = some x) (hc : ∀ b, x = .inl b → Z X 0 p l e rm_X9_ahead s m args below meth c 2 12 (vx_MQ below (QXI X 0 rx s.heap.size) (XCX X 0 rx s.heap.size) args s 3 18 (AA X 0 s.heap.size)) 5 b.1 43 [(0, .ref (X.2.2 1)), (1, .int v1), (2, .int v2), (3, .int v3), (4, .int b.2)] []) (hx : ∀ b, x = .inr b → Z X 0 p l e rm_X9_ahead s m args below meth c 2 12 (vx_MQ below (QXI X 0 rx s.heap.size) (XCX X 0 rx s.heap.size) args s 3 18 (AA X 0 s.heap.size)) 5 b 72 [(0, .ref (X.2.2 1)), (1, .int v1), (2, .int v2), (3, .int v3)] []) : Z X 0 p l e rm_X9_ahead s m args below meth c 2 12 (vx_MQ below (QXI X 0 rx s.heap.size) (XCX X 0 rx s.heap.size) args s 3 18 (AA X 0 s.heap.size)) 5 M 43 [(0, .ref (X.2.2 1)), (1, .int v1), (2, .int v2), (3, .int v3), (4, .int v4)] [] := by
  unfold f_X9_ahead_L43 at he
  refine z_iload S dX9_ahead_43 4 rfl ?_
  refine z_iload_n S dX9_ahead_45 rfl 2 rfl ?_
  refine z_icmp_ge (tgt := 72) S he dX9_ahead_46 (by decide) (fun he => ?_) (fun he => ?_)
  · refine z_lv (ks := [0, 1, 2, 3]) rfl ?_
    exact hx _ (Option.some.inj he).symm
  · refine z_aload_n S dX9_ahead_49 rfl 0 rfl ?_
    refine z_getF (j := 82) S fo_RX9_50 81 rfl rfl ok_1 dX9_ahead_50 ?_
    refine z_aload_n S dX9_ahead_53 rfl 0 rfl ?_
    refine z_getGb (k2 := 4) S fo_RX9_24 rfl ok_1 (by decide) he dX9_ahead_54 (fun q6 hq6 he => ?_)
    refine z_aload_n S dX9_ahead_57 rfl 0 rfl ?_
    refine z_getGb (k2 := 2) S fo_RX9_30 rfl ok_1 (by decide) he dX9_ahead_58 (fun q7 hq7 he => ?_)
    refine z_iconst (v := 0) S dX9_ahead_61 (by decide) ?_
    obtain ⟨⟨r8, M9⟩, h9, he⟩ := bnd he
    dsimp only at he
    refine z_cVI (As := [.ref (X.2.2 q6), .ref (X.2.2 q7), .int 0]) S cv_RX9_242 (K_X6_passDay (okk4 hq6) (okk2 hq7) h9) ok_82 (by decide) (q := (RX6, TX6, 4)) rfl rfl ⟨rfl, rfl⟩ ⟨Nat.le_of_ble_eq_true rfl, Nat.le_of_ble_eq_true rfl⟩ ⟨Nat.le_of_ble_eq_true rfl, Nat.le_of_ble_eq_true rfl⟩ rfl rfl (Nat.le_of_ble_eq_true rfl) dX9_ahead_62 ?_
    refine z_pop S rfl dX9_ahead_65 ?_
    refine z_iinc (v := (v4 + 1)) (lv' := [(0, .ref (X.2.2 1)), (1, .int v1), (2, .int v2), (3, .int v3), (4, .int (v4 + 1))]) S [1, 2, 3, 4, 0] 4 dX9_ahead_66 rfl (by rfl) (by decide) rfl ?_
    refine z_goto (tgt := 43) S dX9_ahead_69 (by decide) ?_
    refine z_lv (ks := [0, 1, 2, 3, 4]) rfl ?_
    exact hc _ (Option.some.inj he).symm
set_option maxRecDepth 100000 in
set_option maxHeartbeats 4000000 in
theorem K_X9_ahead {X : Cx} {l : Launch} (hl0 : l.stackTraces = false) {M : Mm} {a1 : Int32} {a2 : Int32} {a3 : Int32} {rx : ((Int32 × Mm) ⊕ (Nat × Mm))}  (he : f_X9_ahead M a1 a2 a3 = some rx) : KXI X 0 l yX9_ahead (wz yX9_ahead cX9_ahead 5 (some .int)) rm_X9_ahead 3 18 [.ref (X.2.2 1), .int a1, .int a2, .int a3] M rx := by
  intro sz
  refine KX_of (Qc := fun sz => QXI X 0 rx sz) (XC := fun sz => XCX X 0 rx sz) (own := RX9) (lv0 := [(0, .ref (X.2.2 1)), (1, .int a1), (2, .int a2), (3, .int a3)]) (by decide +kernel) rfl (Nat.le_of_ble_eq_true rfl) rfl (fun p e s m args below meth c S T0 => ?_) sz
  · unfold f_X9_ahead at he
    refine z_aload_n S dX9_ahead_0 rfl 0 rfl ?_
    refine z_iload_n S dX9_ahead_1 rfl 1 rfl ?_
    obtain ⟨r9, h9, hr1, hr2⟩ := bndS he
    refine z_xVV (As := [.int a1]) S cv_RX9_139 (K_X9_needThing hl0  h9) ok_1 (by decide) (q := (RX9, TX9, 17)) rfl rfl ⟨rfl, rfl⟩ ⟨Nat.le_of_ble_eq_true rfl, Nat.le_of_ble_eq_true rfl⟩ ⟨Nat.le_of_ble_eq_true rfl, Nat.le_of_ble_eq_true rfl⟩ rfl rfl (Nat.le_of_ble_eq_true rfl) dX9_ahead_2 T0 (by decide) (by decide) (fun q hq => Option.some.inj (hr2 q hq)) (fun e_0 hE => ?_)
    have he := hr1 _ hE
    refine z_iload_n S dX9_ahead_5 rfl 2 rfl ?_
    obtain ⟨r9, h9, hr1, hr2⟩ := bndS he
    refine z_xSV (As := [.int a2]) S cs_RX9_326 (K_X9_needDaysAhead hl0  h9) ⟨rfl, rfl⟩ ⟨Nat.le_of_ble_eq_true rfl, Nat.le_of_ble_eq_true rfl⟩ ⟨Nat.le_of_ble_eq_true rfl, Nat.le_of_ble_eq_true rfl⟩ rfl rfl (Nat.le_of_ble_eq_true rfl) dX9_ahead_6 T0 (by decide) (by decide) (fun q hq => Option.some.inj (hr2 q hq)) (fun e_1 hE => ?_)
    have he := hr1 _ hE
    refine z_iload_n S dX9_ahead_9 rfl 3 rfl ?_
    refine z_if_lt (tgt := 18) S he dX9_ahead_10 (by decide) (fun he => ?_) (fun he => ?_)
    · refine z_lv (ks := []) rfl ?_
      exact p_X9_ahead_J18 hl0 T0 S  he
    · refine z_iload_n S dX9_ahead_13 rfl 3 rfl ?_
      refine z_iconst (v := 1) S dX9_ahead_14 (by decide) ?_
      refine z_icmp_le (tgt := 29) S he dX9_ahead_15 (by decide) (fun he => ?_) (fun he => ?_)
      · refine z_aload_n S dX9_ahead_29 rfl 0 rfl ?_
        refine z_getGb (k2 := 4) S fo_RX9_24 rfl ok_1 (by decide) he dX9_ahead_30 (fun q3 hq3 he => ?_)
        refine z_aload_n S dX9_ahead_33 rfl 0 rfl ?_
        refine z_getGb (k2 := 4) S fo_RX9_20 rfl ok_1 (by decide) he dX9_ahead_34 (fun q4 hq4 he => ?_)
        obtain ⟨M5, h9, he⟩ := bnd he
        refine z_cVV (As := [.ref (X.2.2 q4)]) S cv_RX9_93 (K_X4_copyFrom (okk4 hq3) (okk4 hq4) h9) (okk4 hq3) (by decide) (q := (RX4, TX4, 10)) rfl rfl ⟨rfl, rfl⟩ ⟨Nat.le_of_ble_eq_true rfl, Nat.le_of_ble_eq_true rfl⟩ ⟨Nat.le_of_ble_eq_true rfl, Nat.le_of_ble_eq_true rfl⟩ rfl rfl (Nat.le_of_ble_eq_true rfl) dX9_ahead_37 ?_
        refine z_iconst (v := 0) S dX9_ahead_40 (by decide) ?_
        refine z_istore (lv' := [(0, .ref (X.2.2 1)), (1, .int a1), (2, .int a2), (3, .int a3), (4, .int 0)]) S [1, 2, 3, 4, 0] dX9_ahead_41 (by decide) rfl ?_
        obtain ⟨e_10, hl, he⟩ := bnd he
        have hX : Z X 0 p l e rm_X9_ahead s m args below meth c 2 12 (vx_MQ below (QXI X 0 rx s.heap.size) (XCX X 0 rx s.heap.size) args s 3 18 (AA X 0 s.heap.size)) 5 e_10 72 [(0, .ref (X.2.2 1)), (1, .int a1), (2, .int a2), (3, .int a3)] [] := by
          refine z_iload_n S dX9_ahead_72 rfl 3 rfl ?_
          refine z_if_ne (tgt := 86) S he dX9_ahead_73 (by decide) (fun he => ?_) (fun he => ?_)
          · refine z_iload_n S dX9_ahead_86 rfl 2 rfl ?_
            refine z_if_ne (tgt := 94) S he dX9_ahead_87 (by decide) (fun he => ?_) (fun he => ?_)
            · refine z_aload_n S dX9_ahead_94 rfl 0 rfl ?_
              refine z_getF (j := 82) S fo_RX9_50 81 rfl rfl ok_1 dX9_ahead_95 ?_
              refine z_iload_n S dX9_ahead_98 rfl 1 rfl ?_
              obtain ⟨r11, h9, he⟩ := bnd he
              refine z_cVI (As := [.int a1]) S cv_RX9_162 (K_X6_hadBy  h9) ok_82 (by decide) (q := (RX6, TX6, 4)) rfl rfl ⟨rfl, rfl⟩ ⟨Nat.le_of_ble_eq_true rfl, Nat.le_of_ble_eq_true rfl⟩ ⟨Nat.le_of_ble_eq_true rfl, Nat.le_of_ble_eq_true rfl⟩ rfl rfl (Nat.le_of_ble_eq_true rfl) dX9_ahead_99 ?_
              exact z_xiret S (Option.some.inj he) (by decide) (by decide) dX9_ahead_102
            · refine z_iconst (v := 0) S dX9_ahead_90 (by decide) ?_
              refine z_goto (tgt := 102) S dX9_ahead_91 (by decide) ?_
              exact z_xiret S (Option.some.inj he) (by decide) (by decide) dX9_ahead_102
          · refine z_aload_n S dX9_ahead_76 rfl 0 rfl ?_
            refine z_getGb (k2 := 4) S fo_RX9_24 rfl ok_1 (by decide) he dX9_ahead_77 (fun q12 hq12 he => ?_)
            refine z_iload_n S dX9_ahead_80 rfl 1 rfl ?_
            refine z_iconst (v := 4) S dX9_ahead_81 (by decide) ?_
            refine z_cVI (As := [.int a1, .int 4]) S cv_RX9_147 (K_X4_ofThing (okk4 hq12) rfl) (okk4 hq12) (by decide) (q := (RX4, TX4, 10)) rfl rfl ⟨rfl, rfl⟩ ⟨Nat.le_of_ble_eq_true rfl, Nat.le_of_ble_eq_true rfl⟩ ⟨Nat.le_of_ble_eq_true rfl, Nat.le_of_ble_eq_true rfl⟩ rfl rfl (Nat.le_of_ble_eq_true rfl) dX9_ahead_82 ?_
            exact z_xiret S (Option.some.inj he) (by decide) (by decide) dX9_ahead_85
        have hZ9 := loopZ (f := (fun a_10 => f_X9_ahead_L43 a_10.1 a1 a2 a3 a_10.2)) (Zh := (fun a_10 => Z X 0 p l e rm_X9_ahead s m args below meth c 2 12 (vx_MQ below (QXI X 0 rx s.heap.size) (XCX X 0 rx s.heap.size) args s 3 18 (AA X 0 s.heap.size)) 5 a_10.1 43 [(0, .ref (X.2.2 1)), (1, .int a1), (2, .int a2), (3, .int a3), (4, .int a_10.2)] [])) (fun a_10 x hb hc hr => p_X9_ahead_L43 hl0 T0 S  hb hc (fun b hxe => by rw [hr b hxe]; exact hX)) FU (M5, 0) hl
        exact hZ9
      · refine z_lv (ks := []) rfl ?_
        exact p_X9_ahead_J18 hl0 T0 S  he
set_option maxRecDepth 100000 in
set_option maxHeartbeats 4000000 in
theorem p_X9_alone_L19 {X : Cx} {p : Program} {l : Launch} {e : Env} {s : State} {m : MethodId} {args : Array Value} {below : List Frame} {meth : Method} {c : Code} (S : SB X 0 p s m args meth c cX9_alone 3 (some .int) RX9) {M : Mm} {N : Mm} {r : Int32} {v1 : Int32} {v2 : Int32} {x : (Int32 × Int32) ⊕ Int32}  (he : f_X9_alone_L19 M v1 v2 = some x) (hc : ∀ b, x = .inl b → Z X 0 p l e rm_X9_alone s m args below meth c 0 0 (MQ below (QI X 0 r N s.heap.size) args s 0 0 (AA X 0 s.heap.size)) 3 M 19 [(0, .ref (X.2.2 1)), (1, .int b.1), (2, .int b.2)] []) (hx : ∀ b, x = .inr b → Z X 0 p l e rm_X9_alone s m args below meth c 0 0 (MQ below (QI X 0 r N s.heap.size) args s 0 0 (AA X 0 s.heap.size)) 3 M 56 [(1, .int b)] []) : Z X 0 p l e rm_X9_alone s m args below meth c 0 0 (MQ below (QI X 0 r N s.heap.size) args s 0 0 (AA X 0 s.heap.size)) 3 M 19 [(0, .ref (X.2.2 1)), (1, .int v1), (2, .int v2)] [] := by
  unfold f_X9_alone_L19 at he
  refine z_iload_n S dX9_alone_19 rfl 2 rfl ?_
  refine z_aload_n S dX9_alone_20 rfl 0 rfl ?_
  refine z_getGb (k2 := 4) S fo_RX9_20 rfl ok_1 (by decide) he dX9_alone_21 (fun q4 hq4 he => ?_)
  refine z_getI S fo_RX9_191 rfl (okk4 hq4) dX9_alone_24 ?_
  refine z_icmp_ge (tgt := 56) S he dX9_alone_27 (by decide) (fun he => ?_) (fun he => ?_)
  · refine z_lv (ks := [1]) rfl ?_
    exact hx _ (Option.some.inj he).symm
  · refine z_aload_n S dX9_alone_30 rfl 0 rfl ?_
    refine z_getF (j := 82) S fo_RX9_50 81 rfl rfl ok_1 dX9_alone_31 ?_
    refine z_getF (j := 84) S fo_RX9_155 2 rfl rfl ok_82 dX9_alone_34 ?_
    refine z_iload_n S dX9_alone_37 rfl 2 rfl ?_
    refine z_cSI (As := [.ref (X.2.2 84), .int v2]) S cs_RX9_158 (Kt_X9_at ok_84 rfl) ⟨rfl, rfl⟩ ⟨Nat.le_of_ble_eq_true rfl, Nat.le_of_ble_eq_true rfl⟩ ⟨Nat.le_refl _, Nat.le_refl _⟩ rfl rfl (Nat.le_of_ble_eq_true rfl) dX9_alone_38 ?_
    refine z_if_ne (tgt := 50) S he dX9_alone_41 (by decide) (fun he => ?_) (fun he => ?_)
    · refine z_iinc (v := (v2 + 1)) (lv' := [(0, .ref (X.2.2 1)), (1, .int v1), (2, .int (v2 + 1))]) S [1, 2, 0] 2 dX9_alone_50 rfl (by rfl) (by decide) rfl ?_
      refine z_goto (tgt := 19) S dX9_alone_53 (by decide) ?_
      refine z_lv (ks := [0, 1, 2]) rfl ?_
      exact hc _ (Option.some.inj he).symm
    · refine z_iload_n S dX9_alone_44 rfl 1 rfl ?_
      refine z_iconst (v := 1) S dX9_alone_45 (by decide) ?_
      refine z_iload_n S dX9_alone_46 rfl 2 rfl ?_
      refine z_ishl S dX9_alone_47 ?_
      refine z_ior S dX9_alone_48 ?_
      obtain ⟨x5, ex5, he⟩ := bnd he
      rw [Option.some.inj ex5]
      refine z_istore_n (lv' := [(0, .ref (X.2.2 1)), (1, .int x5), (2, .int v2)]) S [1, 0, 2] dX9_alone_49 rfl (by decide) rfl ?_
      refine z_iinc (v := (v2 + 1)) (lv' := [(0, .ref (X.2.2 1)), (1, .int x5), (2, .int (v2 + 1))]) S [1, 2, 0] 2 dX9_alone_50 rfl (by rfl) (by decide) rfl ?_
      refine z_goto (tgt := 19) S dX9_alone_53 (by decide) ?_
      refine z_lv (ks := [0, 1, 2]) rfl ?_
      exact hc _ (Option.some.inj he).symm
set_option maxRecDepth 100000 in
set_option maxHeartbeats 4000000 in
theorem K_X9_alone {X : Cx} {l : Launch} {M : Mm} {r : Int32} {N : Mm}  (he : f_X9_alone M  = some (r, N)) : KI X 0 l yX9_alone (wz yX9_alone cX9_alone 3 (some .int)) rm_X9_alone [.ref (X.2.2 1)] M r N := by
  intro sz
  refine K_of (Qc := (fun sz => QI X 0 r N sz)) (own := RX9) (lv0 := [(0, .ref (X.2.2 1))]) (by decide +kernel) rfl (Nat.le_of_ble_eq_true rfl) rfl (fun p e s m args below meth c S => ?_) sz
  · unfold f_X9_alone at he
    refine z_aload_n S dX9_alone_0 rfl 0 rfl ?_
    refine z_getF (j := 82) S fo_RX9_50 81 rfl rfl ok_1 dX9_alone_1 ?_
    refine z_aload_n S dX9_alone_4 rfl 0 rfl ?_
    refine z_getGb (k2 := 4) S fo_RX9_20 rfl ok_1 (by decide) he dX9_alone_5 (fun q1 hq1 he => ?_)
    refine z_aload_n S dX9_alone_8 rfl 0 rfl ?_
    refine z_getGb (k2 := 2) S fo_RX9_30 rfl ok_1 (by decide) he dX9_alone_9 (fun q2 hq2 he => ?_)
    obtain ⟨M3, h9, he⟩ := bnd he
    refine z_cVV (As := [.ref (X.2.2 q1), .ref (X.2.2 q2)]) S cv_RX9_198 (K_X6_weigh (okk4 hq1) (okk2 hq2) h9) ok_82 (by decide) (q := (RX6, TX6, 4)) rfl rfl ⟨rfl, rfl⟩ ⟨Nat.le_of_ble_eq_true rfl, Nat.le_of_ble_eq_true rfl⟩ ⟨Nat.le_refl _, Nat.le_refl _⟩ rfl rfl (Nat.le_of_ble_eq_true rfl) dX9_alone_12 ?_
    refine z_iconst (v := 0) S dX9_alone_15 (by decide) ?_
    refine z_istore_n (lv' := [(0, .ref (X.2.2 1)), (1, .int 0)]) S [1, 0] dX9_alone_16 rfl (by decide) rfl ?_
    refine z_iconst (v := 0) S dX9_alone_17 (by decide) ?_
    refine z_istore_n (lv' := [(0, .ref (X.2.2 1)), (1, .int 0), (2, .int 0)]) S [1, 2, 0] dX9_alone_18 rfl (by decide) rfl ?_
    obtain ⟨e_6, hl, he⟩ := bnd he
    have hX : Z X 0 p l e rm_X9_alone s m args below meth c 0 0 (MQ below (QI X 0 r N s.heap.size) args s 0 0 (AA X 0 s.heap.size)) 3 M3 56 [(1, .int e_6)] [] := by
      refine z_iload_n S dX9_alone_56 rfl 0 rfl ?_
      exact z_iret S (Prod.mk.inj (Option.some.inj he)) dX9_alone_57
    have hZ9 := loopZ (f := (fun a_6 => f_X9_alone_L19 M3 a_6.1 a_6.2)) (Zh := (fun a_6 => Z X 0 p l e rm_X9_alone s m args below meth c 0 0 (MQ below (QI X 0 r N s.heap.size) args s 0 0 (AA X 0 s.heap.size)) 3 M3 19 [(0, .ref (X.2.2 1)), (1, .int a_6.1), (2, .int a_6.2)] [])) (fun a_6 x hb hc hr => p_X9_alone_L19 S  hb hc (fun b hxe => by rw [hr b hxe]; exact hX)) FU (0, 0) hl
    exact hZ9
set_option maxRecDepth 100000 in
set_option maxHeartbeats 4000000 in
theorem p_X9_append_L3 {X : Cx} {p : Program} {l : Launch} {e : Env} {s : State} {m : MethodId} {args : Array Value} {below : List Frame} {meth : Method} {c : Code} (S : SB X 0 p s m args meth c cX9_append 3 none RX9) {M : Mm} {N : Mm} {v1 : Int32} {v2 : Int32} {x : (Mm × Int32) ⊕ Mm}  (he : f_X9_append_L3 M v1 v2 = some x) (hc : ∀ b, x = .inl b → Z X 0 p l e rm_X9_append s m args below meth c 0 0 (MQ below (QV X 0 N s.heap.size) args s 0 0 (AA X 0 s.heap.size)) 3 b.1 3 [(0, .ref (X.2.2 1)), (1, .int v1), (2, .int b.2)] []) (hx : ∀ b, x = .inr b → Z X 0 p l e rm_X9_append s m args below meth c 0 0 (MQ below (QV X 0 N s.heap.size) args s 0 0 (AA X 0 s.heap.size)) 3 b 41 [] []) : Z X 0 p l e rm_X9_append s m args below meth c 0 0 (MQ below (QV X 0 N s.heap.size) args s 0 0 (AA X 0 s.heap.size)) 3 M 3 [(0, .ref (X.2.2 1)), (1, .int v1), (2, .int v2)] [] := by
  unfold f_X9_append_L3 at he
  refine z_iload_n S dX9_append_3 rfl 2 rfl ?_
  refine z_if_lt (tgt := 41) S he dX9_append_4 (by decide) (fun he => ?_) (fun he => ?_)
  · refine z_lv (ks := []) rfl ?_
    exact hx _ (Option.some.inj he).symm
  · refine z_aload_n S dX9_append_7 rfl 0 rfl ?_
    refine z_getF (j := 2) S fo_RX9_9 1 rfl rfl ok_1 dX9_append_8 ?_
    refine z_aload_n S dX9_append_11 rfl 0 rfl ?_
    refine z_getI S fo_RX9_82 rfl ok_1 dX9_append_12 ?_
    refine z_iload_n S dX9_append_15 rfl 1 rfl ?_
    refine z_iload_n S dX9_append_16 rfl 2 rfl ?_
    refine z_iushr S dX9_append_17 ?_
    refine z_sipush (v := 255) S dX9_append_18 (by decide) ?_
    refine z_iand S dX9_append_21 ?_
    obtain ⟨M1, h9, he⟩ := bnd he
    refine z_cSV (As := [.ref (X.2.2 2), .int (gI M 1 1), .int ((iush v1 v2) &&& 255)]) S cs_RX9_89 (Kt_X9_put ok_2 (Option.some.inj h9)) ⟨rfl, rfl⟩ ⟨Nat.le_of_ble_eq_true rfl, Nat.le_of_ble_eq_true rfl⟩ ⟨Nat.le_refl _, Nat.le_refl _⟩ rfl rfl (Nat.le_of_ble_eq_true rfl) dX9_append_22 ?_
    refine z_aload_n S dX9_append_25 rfl 0 rfl ?_
    refine z_dup S rfl dX9_append_26 ?_
    refine z_getI S fo_RX9_82 rfl ok_1 dX9_append_27 ?_
    refine z_iconst (v := 1) S dX9_append_30 (by decide) ?_
    refine z_iadd S dX9_append_31 ?_
    refine z_putIb S fo_RX9_82p rfl ok_1 rfl rfl he dX9_append_32 (fun M2 he => ?_)
    refine z_iinc (v := (v2 + (-8))) (lv' := [(0, .ref (X.2.2 1)), (1, .int v1), (2, .int (v2 + (-8)))]) S [1, 2, 0] 2 dX9_append_35 rfl (by rfl) (by decide) rfl ?_
    refine z_goto (tgt := 3) S dX9_append_38 (by decide) ?_
    refine z_lv (ks := [0, 1, 2]) rfl ?_
    exact hc _ (Option.some.inj he).symm
set_option maxRecDepth 100000 in
set_option maxHeartbeats 4000000 in
theorem K_X9_append {X : Cx} {l : Launch} {M : Mm} {a1 : Int32} {N : Mm}  (he : f_X9_append M a1 = some N) : KV X 0 l yX9_append (wz yX9_append cX9_append 3 none) rm_X9_append [.ref (X.2.2 1), .int a1] M N := by
  intro sz
  refine K_of (Qc := (fun sz => QV X 0 N sz)) (own := RX9) (lv0 := [(0, .ref (X.2.2 1)), (1, .int a1)]) (by decide +kernel) rfl (Nat.le_of_ble_eq_true rfl) rfl (fun p e s m args below meth c S => ?_) sz
  · unfold f_X9_append at he
    refine z_bipush (v := 24) S dX9_append_0 (by decide) ?_
    refine z_istore_n (lv' := [(0, .ref (X.2.2 1)), (1, .int a1), (2, .int 24)]) S [1, 2, 0] dX9_append_2 rfl (by decide) rfl ?_
    obtain ⟨e_3, hl, he⟩ := bnd he
    have hX : Z X 0 p l e rm_X9_append s m args below meth c 0 0 (MQ below (QV X 0 N s.heap.size) args s 0 0 (AA X 0 s.heap.size)) 3 e_3 41 [] [] := by
      exact z_vret S (Option.some.inj he) dX9_append_41
    have hZ9 := loopZ (f := (fun a_3 => f_X9_append_L3 a_3.1 a1 a_3.2)) (Zh := (fun a_3 => Z X 0 p l e rm_X9_append s m args below meth c 0 0 (MQ below (QV X 0 N s.heap.size) args s 0 0 (AA X 0 s.heap.size)) 3 a_3.1 3 [(0, .ref (X.2.2 1)), (1, .int a1), (2, .int a_3.2)] [])) (fun a_3 x hb hc hr => p_X9_append_L3 S  hb hc (fun b hxe => by rw [hr b hxe]; exact hX)) FU (M, 24) hl
    exact hZ9
set_option maxRecDepth 100000 in
set_option maxHeartbeats 4000000 in
theorem K_X9_back {X : Cx} {l : Launch} {M : Mm} {r : Bool} {N : Mm}  (he : f_X9_back M  = some (r, N)) : KI X 0 l yX9_back (wz yX9_back cX9_back 1 (some .boolean)) rm_X9_back [.ref (X.2.2 1)] M (bI r) N := by
  intro sz
  refine K_of (Qc := (fun sz => QI X 0 (bI r) N sz)) (own := RX9) (lv0 := [(0, .ref (X.2.2 1))]) (by decide +kernel) rfl (Nat.le_of_ble_eq_true rfl) rfl (fun p e s m args below meth c S => ?_) sz
  · unfold f_X9_back at he
    refine z_aload_n S dX9_back_0 rfl 0 rfl ?_
    refine z_getI S fo_RX9_351 rfl ok_1 dX9_back_1 ?_
    refine z_if_ne (tgt := 9) S he dX9_back_4 (by decide) (fun he => ?_) (fun he => ?_)
    · refine z_aload_n S dX9_back_9 rfl 0 rfl ?_
      refine z_getGb (k2 := 4) S fo_RX9_20 rfl ok_1 (by decide) he dX9_back_10 (fun q1 hq1 he => ?_)
      refine z_aload_n S dX9_back_13 rfl 0 rfl ?_
      refine z_getF (j := 60) S fo_RX9_37 59 rfl rfl ok_1 dX9_back_14 ?_
      obtain ⟨M2, h9, he⟩ := bnd he
      refine z_cVV (As := [.ref (X.2.2 60)]) S cv_RX9_93 (K_X4_copyFrom (okk4 hq1) ok_60 h9) (okk4 hq1) (by decide) (q := (RX4, TX4, 10)) rfl rfl ⟨rfl, rfl⟩ ⟨Nat.le_of_ble_eq_true rfl, Nat.le_of_ble_eq_true rfl⟩ ⟨Nat.le_refl _, Nat.le_refl _⟩ rfl rfl (Nat.le_of_ble_eq_true rfl) dX9_back_17 ?_
      refine z_aload_n S dX9_back_20 rfl 0 rfl ?_
      refine z_getGb (k2 := 2) S fo_RX9_30 rfl ok_1 (by decide) he dX9_back_21 (fun q3 hq3 he => ?_)
      refine z_aload_n S dX9_back_24 rfl 0 rfl ?_
      refine z_getF (j := 76) S fo_RX9_40 75 rfl rfl ok_1 dX9_back_25 ?_
      obtain ⟨M4, h9, he⟩ := bnd he
      refine z_cVV (As := [.ref (X.2.2 76)]) S cv_RX9_348 (K_X2_copyFrom (okk2 hq3) ok_76 h9) (okk2 hq3) (by decide) (q := (RX2, TX2, 7)) rfl rfl ⟨rfl, rfl⟩ ⟨Nat.le_of_ble_eq_true rfl, Nat.le_of_ble_eq_true rfl⟩ ⟨Nat.le_refl _, Nat.le_refl _⟩ rfl rfl (Nat.le_of_ble_eq_true rfl) dX9_back_28 ?_
      refine z_aload_n S dX9_back_31 rfl 0 rfl ?_
      refine z_iconst (v := 0) S dX9_back_32 (by decide) ?_
      refine z_putIb S fo_RX9_129p rfl ok_1 rfl rfl he dX9_back_33 (fun M5 he => ?_)
      refine z_iconst (v := 1) S dX9_back_36 (by decide) ?_
      exact z_zret1 S (Prod.mk.inj (Option.some.inj he)) dX9_back_37
    · refine z_iconst (v := 0) S dX9_back_7 (by decide) ?_
      exact z_zret0 S (Prod.mk.inj (Option.some.inj he)) dX9_back_8
set_option maxRecDepth 100000 in
set_option maxHeartbeats 4000000 in
theorem K_X9_pairUp {X : Cx} {l : Launch} {M : Mm} {N : Mm}  (he : f_X9_pairUp M  = some N) : KV X 0 l yX9_pairUp (wz yX9_pairUp cX9_pairUp 1 none) rm_X9_pairUp [.ref (X.2.2 1)] M N := by
  intro sz
  refine K_of (Qc := (fun sz => QV X 0 N sz)) (own := RX9) (lv0 := [(0, .ref (X.2.2 1))]) (by decide +kernel) rfl (Nat.le_of_ble_eq_true rfl) rfl (fun p e s m args below meth c S => ?_) sz
  · unfold f_X9_pairUp at he
    refine z_aload_n S dX9_pairUp_0 rfl 0 rfl ?_
    refine z_getF (j := 82) S fo_RX9_50 81 rfl rfl ok_1 dX9_pairUp_1 ?_
    refine z_aload_n S dX9_pairUp_4 rfl 0 rfl ?_
    refine z_getGb (k2 := 4) S fo_RX9_20 rfl ok_1 (by decide) he dX9_pairUp_5 (fun q1 hq1 he => ?_)
    refine z_aload_n S dX9_pairUp_8 rfl 0 rfl ?_
    refine z_getGb (k2 := 2) S fo_RX9_30 rfl ok_1 (by decide) he dX9_pairUp_9 (fun q2 hq2 he => ?_)
    obtain ⟨M3, h9, he⟩ := bnd he
    refine z_cVV (As := [.ref (X.2.2 q1), .ref (X.2.2 q2)]) S cv_RX9_198 (K_X6_weigh (okk4 hq1) (okk2 hq2) h9) ok_82 (by decide) (q := (RX6, TX6, 4)) rfl rfl ⟨rfl, rfl⟩ ⟨Nat.le_of_ble_eq_true rfl, Nat.le_of_ble_eq_true rfl⟩ ⟨Nat.le_refl _, Nat.le_refl _⟩ rfl rfl (Nat.le_of_ble_eq_true rfl) dX9_pairUp_12 ?_
    refine z_aload_n S dX9_pairUp_15 rfl 0 rfl ?_
    refine z_getF (j := 87) S fo_RX9_57 86 rfl rfl ok_1 dX9_pairUp_16 ?_
    refine z_aload_n S dX9_pairUp_19 rfl 0 rfl ?_
    refine z_getGb (k2 := 4) S fo_RX9_20 rfl ok_1 (by decide) he dX9_pairUp_20 (fun q4 hq4 he => ?_)
    refine z_aload_n S dX9_pairUp_23 rfl 0 rfl ?_
    refine z_getF (j := 82) S fo_RX9_50 81 rfl rfl ok_1 dX9_pairUp_24 ?_
    obtain ⟨M5, h9, he⟩ := bnd he
    refine z_cVV (As := [.ref (X.2.2 q4), .ref (X.2.2 82)]) S cv_RX9_272 (K_X5_take (okk4 hq4) h9) ok_87 (by decide) (q := (RX5, TX5, 5)) rfl rfl ⟨rfl, rfl⟩ ⟨Nat.le_of_ble_eq_true rfl, Nat.le_of_ble_eq_true rfl⟩ ⟨Nat.le_refl _, Nat.le_refl _⟩ rfl rfl (Nat.le_of_ble_eq_true rfl) dX9_pairUp_27 ?_
    exact z_vret S (Option.some.inj he) dX9_pairUp_30
set_option maxRecDepth 100000 in
set_option maxHeartbeats 4000000 in
theorem K_X9_cannot {X : Cx} {l : Launch} {M : Mm} {r : Int32} {N : Mm}  (he : f_X9_cannot M  = some (r, N)) : KI X 0 l yX9_cannot (wz yX9_cannot cX9_cannot 1 (some .int)) rm_X9_cannot [.ref (X.2.2 1)] M r N := by
  intro sz
  refine K_of (Qc := (fun sz => QI X 0 r N sz)) (own := RX9) (lv0 := [(0, .ref (X.2.2 1))]) (by decide +kernel) rfl (Nat.le_of_ble_eq_true rfl) rfl (fun p e s m args below meth c S => ?_) sz
  · unfold f_X9_cannot at he
    refine z_aload_n S dX9_cannot_0 rfl 0 rfl ?_
    obtain ⟨M1, h9, he⟩ := bnd he
    refine z_cVV (As := []) S cv_RX9_252 (K_X9_pairUp  h9) ok_1 (by decide) (q := (RX9, TX9, 17)) rfl rfl ⟨rfl, rfl⟩ ⟨Nat.le_of_ble_eq_true rfl, Nat.le_of_ble_eq_true rfl⟩ ⟨Nat.le_refl _, Nat.le_refl _⟩ rfl rfl (Nat.le_of_ble_eq_true rfl) dX9_cannot_1 ?_
    refine z_aload_n S dX9_cannot_4 rfl 0 rfl ?_
    refine z_getF (j := 87) S fo_RX9_57 86 rfl rfl ok_1 dX9_cannot_5 ?_
    obtain ⟨r2, h9, he⟩ := bnd he
    refine z_cVI (As := []) S cv_RX9_269 (K_X5_fewestTooMany  h9) ok_87 (by decide) (q := (RX5, TX5, 5)) rfl rfl ⟨rfl, rfl⟩ ⟨Nat.le_of_ble_eq_true rfl, Nat.le_of_ble_eq_true rfl⟩ ⟨Nat.le_refl _, Nat.le_refl _⟩ rfl rfl (Nat.le_of_ble_eq_true rfl) dX9_cannot_8 ?_
    exact z_iret S (Prod.mk.inj (Option.some.inj he)) dX9_cannot_11
set_option maxRecDepth 100000 in
set_option maxHeartbeats 4000000 in
theorem K_X9_tomorrow {X : Cx} {l : Launch} {M : Mm} {a1 : Nat} {r : Int32} {N : Mm} (h_a1 : OK 0 a1 4) (he : f_X9_tomorrow M a1 = some (r, N)) : KI X 0 l yX9_tomorrow (wz yX9_tomorrow cX9_tomorrow 2 (some .int)) rm_X9_tomorrow [.ref (X.2.2 1), .ref (X.2.2 a1)] M r N := by
  intro sz
  refine K_of (Qc := (fun sz => QI X 0 r N sz)) (own := RX9) (lv0 := [(0, .ref (X.2.2 1)), (1, .ref (X.2.2 a1))]) (by decide +kernel) rfl (Nat.le_of_ble_eq_true rfl) rfl (fun p e s m args below meth c S => ?_) sz
  · unfold f_X9_tomorrow at he
    refine z_aload_n S dX9_tomorrow_0 rfl 0 rfl ?_
    refine z_getF (j := 82) S fo_RX9_50 81 rfl rfl ok_1 dX9_tomorrow_1 ?_
    refine z_aload_n S dX9_tomorrow_4 rfl 1 rfl ?_
    refine z_aload_n S dX9_tomorrow_5 rfl 0 rfl ?_
    refine z_getGb (k2 := 2) S fo_RX9_30 rfl ok_1 (by decide) he dX9_tomorrow_6 (fun q1 hq1 he => ?_)
    obtain ⟨M2, h9, he⟩ := bnd he
    refine z_cVV (As := [.ref (X.2.2 a1), .ref (X.2.2 q1)]) S cv_RX9_198 (K_X6_weigh h_a1 (okk2 hq1) h9) ok_82 (by decide) (q := (RX6, TX6, 4)) rfl rfl ⟨rfl, rfl⟩ ⟨Nat.le_of_ble_eq_true rfl, Nat.le_of_ble_eq_true rfl⟩ ⟨Nat.le_refl _, Nat.le_refl _⟩ rfl rfl (Nat.le_of_ble_eq_true rfl) dX9_tomorrow_9 ?_
    refine z_aload_n S dX9_tomorrow_12 rfl 0 rfl ?_
    refine z_getF (j := 82) S fo_RX9_50 81 rfl rfl ok_1 dX9_tomorrow_13 ?_
    refine z_aload_n S dX9_tomorrow_16 rfl 1 rfl ?_
    refine z_iconst (v := 0) S dX9_tomorrow_17 (by decide) ?_
    obtain ⟨⟨r3, M4⟩, h9, he⟩ := bnd he
    dsimp only at he
    refine z_cVI (As := [.ref (X.2.2 a1), .int 0]) S cv_RX9_202 (K_X6_lead h_a1 h9) ok_82 (by decide) (q := (RX6, TX6, 4)) rfl rfl ⟨rfl, rfl⟩ ⟨Nat.le_of_ble_eq_true rfl, Nat.le_of_ble_eq_true rfl⟩ ⟨Nat.le_refl _, Nat.le_refl _⟩ rfl rfl (Nat.le_of_ble_eq_true rfl) dX9_tomorrow_18 ?_
    exact z_iret S (Prod.mk.inj (Option.some.inj he)) dX9_tomorrow_21
set_option maxRecDepth 100000 in
set_option maxHeartbeats 4000000 in
theorem p_X9_change_L43 {X : Cx} {p : Program} {l : Launch} {e : Env} {s : State} {m : MethodId} {args : Array Value} {below : List Frame} {meth : Method} {c : Code} (S : SB X 0 p s m args meth c cX9_change 7 (some .int) RX9) {M : Mm} {N : Mm} {r : Int32} {v1 : Int32} {v2 : Int32} {v3 : Int32} {v4 : Int32} {v5 : Int32} {x : (Mm × Int32 × Int32 × Int32) ⊕ (Mm × Int32 × Int32)}  (he : f_X9_change_L43 M v1 v2 v3 v4 v5 = some x) (hc : ∀ b, x = .inl b → Z X 0 p l e rm_X9_change s m args below meth c 0 0 (MQ below (QI X 0 r N s.heap.size) args s 0 0 (AA X 0 s.heap.size)) 7 b.1 43 [(0, .ref (X.2.2 1)), (1, .int v1), (2, .int b.2.1), (3, .int b.2.2.1), (4, .int v4), (5, .int b.2.2.2)] []) (hx : ∀ b, x = .inr b → Z X 0 p l e rm_X9_change s m args below meth c 0 0 (MQ below (QI X 0 r N s.heap.size) args s 0 0 (AA X 0 s.heap.size)) 7 b.1 111 [(0, .ref (X.2.2 1)), (1, .int v1), (2, .int b.2.1), (3, .int b.2.2), (4, .int v4)] []) : Z X 0 p l e rm_X9_change s m args below meth c 0 0 (MQ below (QI X 0 r N s.heap.size) args s 0 0 (AA X 0 s.heap.size)) 7 M 43 [(0, .ref (X.2.2 1)), (1, .int v1), (2, .int v2), (3, .int v3), (4, .int v4), (5, .int v5)] [] := by
  unfold f_X9_change_L43 at he
  refine z_iload S dX9_change_43 5 rfl ?_
  refine z_aload_n S dX9_change_45 rfl 0 rfl ?_
  refine z_getGb (k2 := 4) S fo_RX9_20 rfl ok_1 (by decide) he dX9_change_46 (fun q8 hq8 he => ?_)
  refine z_getI S fo_RX9_191 rfl (okk4 hq8) dX9_change_49 ?_
  refine z_icmp_ge (tgt := 111) S he dX9_change_52 (by decide) (fun he => ?_) (fun he => ?_)
  · refine z_lv (ks := [0, 1, 2, 3, 4]) rfl ?_
    exact hx _ (Option.some.inj he).symm
  · refine z_aload_n S dX9_change_55 rfl 0 rfl ?_
    refine z_getGb (k2 := 4) S fo_RX9_24 rfl ok_1 (by decide) he dX9_change_56 (fun q9 hq9 he => ?_)
    refine z_iload S dX9_change_59 4 rfl ?_
    refine z_iload S dX9_change_61 5 rfl ?_
    obtain ⟨M10, h9, he⟩ := bnd he
    refine z_cVV (As := [.int v4, .int v5]) S cv_RX9_275 (K_X4_swapCells (okk4 hq9) h9) (okk4 hq9) (by decide) (q := (RX4, TX4, 10)) rfl rfl ⟨rfl, rfl⟩ ⟨Nat.le_of_ble_eq_true rfl, Nat.le_of_ble_eq_true rfl⟩ ⟨Nat.le_refl _, Nat.le_refl _⟩ rfl rfl (Nat.le_of_ble_eq_true rfl) dX9_change_63 ?_
    refine z_aload_n S dX9_change_66 rfl 0 rfl ?_
    refine z_aload_n S dX9_change_67 rfl 0 rfl ?_
    refine z_getGb (k2 := 4) S fo_RX9_24 rfl ok_1 (by decide) he dX9_change_68 (fun q11 hq11 he => ?_)
    obtain ⟨⟨r12, M13⟩, h9, he⟩ := bnd he
    dsimp only at he
    refine z_cVI (As := [.ref (X.2.2 q11)]) S cv_RX9_151 (K_X9_tomorrow (okk4 hq11) h9) ok_1 (by decide) (q := (RX9, TX9, 17)) rfl rfl ⟨rfl, rfl⟩ ⟨Nat.le_of_ble_eq_true rfl, Nat.le_of_ble_eq_true rfl⟩ ⟨Nat.le_refl _, Nat.le_refl _⟩ rfl rfl (Nat.le_of_ble_eq_true rfl) dX9_change_71 ?_
    refine z_istore (lv' := [(0, .ref (X.2.2 1)), (1, .int v1), (2, .int v2), (3, .int v3), (4, .int v4), (5, .int v5), (6, .int r12)]) S [1, 2, 3, 4, 5, 6, 0] dX9_change_74 (by decide) rfl ?_
    refine z_aload_n S dX9_change_76 rfl 0 rfl ?_
    refine z_getGb (k2 := 4) S fo_RX9_24 rfl ok_1 (by decide) he dX9_change_77 (fun q14 hq14 he => ?_)
    refine z_iload S dX9_change_80 4 rfl ?_
    refine z_iload S dX9_change_82 5 rfl ?_
    obtain ⟨M15, h9, he⟩ := bnd he
    refine z_cVV (As := [.int v4, .int v5]) S cv_RX9_275 (K_X4_swapCells (okk4 hq14) h9) (okk4 hq14) (by decide) (q := (RX4, TX4, 10)) rfl rfl ⟨rfl, rfl⟩ ⟨Nat.le_of_ble_eq_true rfl, Nat.le_of_ble_eq_true rfl⟩ ⟨Nat.le_refl _, Nat.le_refl _⟩ rfl rfl (Nat.le_of_ble_eq_true rfl) dX9_change_84 ?_
    refine z_iload S dX9_change_87 6 rfl ?_
    refine z_iload_n S dX9_change_89 rfl 2 rfl ?_
    refine z_icmp_le (tgt := 105) S he dX9_change_90 (by decide) (fun he => ?_) (fun he => ?_)
    · refine z_iinc (v := (v5 + 1)) (lv' := [(0, .ref (X.2.2 1)), (1, .int v1), (2, .int v2), (3, .int v3), (4, .int v4), (5, .int (v5 + 1)), (6, .int r12)]) S [1, 2, 3, 4, 5, 0, 6] 5 dX9_change_105 rfl (by rfl) (by decide) rfl ?_
      refine z_goto (tgt := 43) S dX9_change_108 (by decide) ?_
      refine z_lv (ks := [0, 1, 2, 3, 4, 5]) rfl ?_
      exact hc _ (Option.some.inj he).symm
    · refine z_iload S dX9_change_93 6 rfl ?_
      refine z_istore_n (lv' := [(0, .ref (X.2.2 1)), (1, .int v1), (2, .int r12), (4, .int v4), (5, .int v5)]) S [1, 2, 0, 4, 5] dX9_change_95 rfl (by decide) rfl ?_
      refine z_bipush (v := 10) S dX9_change_96 (by decide) ?_
      refine z_iload S dX9_change_98 3 rfl ?_
      refine z_imul S dX9_change_100 ?_
      refine z_iload S dX9_change_101 4 rfl ?_
      refine z_iadd S dX9_change_103 ?_
      refine z_istore_n (lv' := [(0, .ref (X.2.2 1)), (1, .int v1), (2, .int r12), (3, .int ((10 * v4) + v5)), (4, .int v4), (5, .int v5)]) S [1, 2, 3, 0, 4, 5] dX9_change_104 rfl (by decide) rfl ?_
      refine z_iinc (v := (v5 + 1)) (lv' := [(0, .ref (X.2.2 1)), (1, .int v1), (2, .int r12), (3, .int ((10 * v4) + v5)), (4, .int v4), (5, .int (v5 + 1))]) S [1, 2, 3, 4, 5, 0] 5 dX9_change_105 rfl (by rfl) (by decide) rfl ?_
      refine z_goto (tgt := 43) S dX9_change_108 (by decide) ?_
      refine z_lv (ks := [0, 1, 2, 3, 4, 5]) rfl ?_
      exact hc _ (Option.some.inj he).symm
set_option maxRecDepth 100000 in
set_option maxHeartbeats 4000000 in
theorem p_X9_change_L25 {X : Cx} {p : Program} {l : Launch} {e : Env} {s : State} {m : MethodId} {args : Array Value} {below : List Frame} {meth : Method} {c : Code} (S : SB X 0 p s m args meth c cX9_change 7 (some .int) RX9) {M : Mm} {N : Mm} {r : Int32} {v1 : Int32} {v2 : Int32} {v3 : Int32} {v4 : Int32} {x : (Mm × Int32 × Int32 × Int32) ⊕ (Mm × Int32 × Int32)}  (he : f_X9_change_L25 M v1 v2 v3 v4 = some x) (hc : ∀ b, x = .inl b → Z X 0 p l e rm_X9_change s m args below meth c 0 0 (MQ below (QI X 0 r N s.heap.size) args s 0 0 (AA X 0 s.heap.size)) 7 b.1 25 [(0, .ref (X.2.2 1)), (1, .int v1), (2, .int b.2.1), (3, .int b.2.2.1), (4, .int b.2.2.2)] []) (hx : ∀ b, x = .inr b → Z X 0 p l e rm_X9_change s m args below meth c 0 0 (MQ below (QI X 0 r N s.heap.size) args s 0 0 (AA X 0 s.heap.size)) 7 b.1 117 [(1, .int v1), (2, .int b.2.1), (3, .int b.2.2)] []) : Z X 0 p l e rm_X9_change s m args below meth c 0 0 (MQ below (QI X 0 r N s.heap.size) args s 0 0 (AA X 0 s.heap.size)) 7 M 25 [(0, .ref (X.2.2 1)), (1, .int v1), (2, .int v2), (3, .int v3), (4, .int v4)] [] := by
  unfold f_X9_change_L25 at he
  refine z_iload S dX9_change_25 4 rfl ?_
  refine z_aload_n S dX9_change_27 rfl 0 rfl ?_
  refine z_getGb (k2 := 4) S fo_RX9_20 rfl ok_1 (by decide) he dX9_change_28 (fun q7 hq7 he => ?_)
  refine z_getI S fo_RX9_191 rfl (okk4 hq7) dX9_change_31 ?_
  refine z_icmp_ge (tgt := 117) S he dX9_change_34 (by decide) (fun he => ?_) (fun he => ?_)
  · refine z_lv (ks := [1, 2, 3]) rfl ?_
    exact hx _ (Option.some.inj he).symm
  · refine z_iload S dX9_change_37 4 rfl ?_
    refine z_iconst (v := 1) S dX9_change_39 (by decide) ?_
    refine z_iadd S dX9_change_40 ?_
    refine z_istore (lv' := [(0, .ref (X.2.2 1)), (1, .int v1), (2, .int v2), (3, .int v3), (4, .int v4), (5, .int (v4 + 1))]) S [1, 2, 3, 4, 5, 0] dX9_change_41 (by decide) rfl ?_
    obtain ⟨e_16, hl, he⟩ := bnd he
    have hX : Z X 0 p l e rm_X9_change s m args below meth c 0 0 (MQ below (QI X 0 r N s.heap.size) args s 0 0 (AA X 0 s.heap.size)) 7 e_16.1 111 [(0, .ref (X.2.2 1)), (1, .int v1), (2, .int e_16.2.1), (3, .int e_16.2.2), (4, .int v4)] [] := by
      refine z_iinc (v := (v4 + 1)) (lv' := [(0, .ref (X.2.2 1)), (1, .int v1), (2, .int e_16.2.1), (3, .int e_16.2.2), (4, .int (v4 + 1))]) S [1, 2, 3, 4, 0] 4 dX9_change_111 rfl (by rfl) (by decide) rfl ?_
      refine z_goto (tgt := 25) S dX9_change_114 (by decide) ?_
      refine z_lv (ks := [0, 1, 2, 3, 4]) rfl ?_
      exact hc _ (Option.some.inj he).symm
    have hZ9 := loopZ (f := (fun a_16 => f_X9_change_L43 a_16.1 v1 a_16.2.1 a_16.2.2.1 v4 a_16.2.2.2)) (Zh := (fun a_16 => Z X 0 p l e rm_X9_change s m args below meth c 0 0 (MQ below (QI X 0 r N s.heap.size) args s 0 0 (AA X 0 s.heap.size)) 7 a_16.1 43 [(0, .ref (X.2.2 1)), (1, .int v1), (2, .int a_16.2.1), (3, .int a_16.2.2.1), (4, .int v4), (5, .int a_16.2.2.2)] [])) (fun a_16 x hb hc hr => p_X9_change_L43 S  hb hc (fun b hxe => by rw [hr b hxe]; exact hX)) FU (M, v2, v3, (v4 + 1)) hl
    exact hZ9
set_option maxRecDepth 100000 in
set_option maxHeartbeats 4000000 in
theorem K_X9_change {X : Cx} {l : Launch} {M : Mm} {a1 : Int32} {r : Int32} {N : Mm}  (he : f_X9_change M a1 = some (r, N)) : KI X 0 l yX9_change (wz yX9_change cX9_change 7 (some .int)) rm_X9_change [.ref (X.2.2 1), .int a1] M r N := by
  intro sz
  refine K_of (Qc := (fun sz => QI X 0 r N sz)) (own := RX9) (lv0 := [(0, .ref (X.2.2 1)), (1, .int a1)]) (by decide +kernel) rfl (Nat.le_of_ble_eq_true rfl) rfl (fun p e s m args below meth c S => ?_) sz
  · unfold f_X9_change at he
    refine z_aload_n S dX9_change_0 rfl 0 rfl ?_
    refine z_aload_n S dX9_change_1 rfl 0 rfl ?_
    refine z_getGb (k2 := 4) S fo_RX9_20 rfl ok_1 (by decide) he dX9_change_2 (fun q1 hq1 he => ?_)
    obtain ⟨⟨r2, M3⟩, h9, he⟩ := bnd he
    dsimp only at he
    refine z_cVI (As := [.ref (X.2.2 q1)]) S cv_RX9_151 (K_X9_tomorrow (okk4 hq1) h9) ok_1 (by decide) (q := (RX9, TX9, 17)) rfl rfl ⟨rfl, rfl⟩ ⟨Nat.le_of_ble_eq_true rfl, Nat.le_of_ble_eq_true rfl⟩ ⟨Nat.le_refl _, Nat.le_refl _⟩ rfl rfl (Nat.le_of_ble_eq_true rfl) dX9_change_5 ?_
    refine z_istore_n (lv' := [(0, .ref (X.2.2 1)), (1, .int a1), (2, .int r2)]) S [1, 2, 0] dX9_change_8 rfl (by decide) rfl ?_
    refine z_iconst (v := (-1)) S dX9_change_9 (by decide) ?_
    refine z_istore_n (lv' := [(0, .ref (X.2.2 1)), (1, .int a1), (2, .int r2), (3, .int (-1))]) S [1, 2, 3, 0] dX9_change_10 rfl (by decide) rfl ?_
    refine z_aload_n S dX9_change_11 rfl 0 rfl ?_
    refine z_getGb (k2 := 4) S fo_RX9_24 rfl ok_1 (by decide) he dX9_change_12 (fun q4 hq4 he => ?_)
    refine z_aload_n S dX9_change_15 rfl 0 rfl ?_
    refine z_getGb (k2 := 4) S fo_RX9_20 rfl ok_1 (by decide) he dX9_change_16 (fun q5 hq5 he => ?_)
    obtain ⟨M6, h9, he⟩ := bnd he
    refine z_cVV (As := [.ref (X.2.2 q5)]) S cv_RX9_93 (K_X4_copyFrom (okk4 hq4) (okk4 hq5) h9) (okk4 hq4) (by decide) (q := (RX4, TX4, 10)) rfl rfl ⟨rfl, rfl⟩ ⟨Nat.le_of_ble_eq_true rfl, Nat.le_of_ble_eq_true rfl⟩ ⟨Nat.le_refl _, Nat.le_refl _⟩ rfl rfl (Nat.le_of_ble_eq_true rfl) dX9_change_19 ?_
    refine z_iconst (v := 0) S dX9_change_22 (by decide) ?_
    refine z_istore (lv' := [(0, .ref (X.2.2 1)), (1, .int a1), (2, .int r2), (3, .int (-1)), (4, .int 0)]) S [1, 2, 3, 4, 0] dX9_change_23 (by decide) rfl ?_
    obtain ⟨e_17, hl, he⟩ := bnd he
    have hX : Z X 0 p l e rm_X9_change s m args below meth c 0 0 (MQ below (QI X 0 r N s.heap.size) args s 0 0 (AA X 0 s.heap.size)) 7 e_17.1 117 [(1, .int a1), (2, .int e_17.2.1), (3, .int e_17.2.2)] [] := by
      refine z_iload_n S dX9_change_117 rfl 0 rfl ?_
      refine z_if_eq (tgt := 125) S he dX9_change_118 (by decide) (fun he => ?_) (fun he => ?_)
      · refine z_iload_n S dX9_change_125 rfl 2 rfl ?_
        exact z_iret S (Prod.mk.inj (Option.some.inj he)) dX9_change_126
      · refine z_iload_n S dX9_change_121 rfl 1 rfl ?_
        refine z_goto (tgt := 126) S dX9_change_122 (by decide) ?_
        exact z_iret S (Prod.mk.inj (Option.some.inj he)) dX9_change_126
    have hZ9 := loopZ (f := (fun a_17 => f_X9_change_L25 a_17.1 a1 a_17.2.1 a_17.2.2.1 a_17.2.2.2)) (Zh := (fun a_17 => Z X 0 p l e rm_X9_change s m args below meth c 0 0 (MQ below (QI X 0 r N s.heap.size) args s 0 0 (AA X 0 s.heap.size)) 7 a_17.1 25 [(0, .ref (X.2.2 1)), (1, .int a1), (2, .int a_17.2.1), (3, .int a_17.2.2.1), (4, .int a_17.2.2.2)] [])) (fun a_17 x hb hc hr => p_X9_change_L25 S  hb hc (fun b hxe => by rw [hr b hxe]; exact hX)) FU (M6, r2, (-1), 0) hl
    exact hZ9
set_option maxRecDepth 100000 in
set_option maxHeartbeats 4000000 in
theorem p_X9_forgetOldest_L9 {X : Cx} {p : Program} {l : Launch} {e : Env} {s : State} {m : MethodId} {args : Array Value} {below : List Frame} {meth : Method} {c : Code} (S : SB X 0 p s m args meth c cX9_forgetOldest 3 none RX9) {M : Mm} {N : Mm} {v1 : Nat} {v2 : Int32} {x : (Mm × Int32) ⊕ Mm} (h_v1 : OK 0 v1 4) (he : f_X9_forgetOldest_L9 M v1 v2 = some x) (hc : ∀ b, x = .inl b → Z X 0 p l e rm_X9_forgetOldest s m args below meth c 0 0 (MQ below (QV X 0 N s.heap.size) args s 0 0 (AA X 0 s.heap.size)) 3 b.1 9 [(0, .ref (X.2.2 1)), (1, .ref (X.2.2 v1)), (2, .int b.2)] []) (hx : ∀ b, x = .inr b → Z X 0 p l e rm_X9_forgetOldest s m args below meth c 0 0 (MQ below (QV X 0 N s.heap.size) args s 0 0 (AA X 0 s.heap.size)) 3 b 38 [(0, .ref (X.2.2 1)), (1, .ref (X.2.2 v1))] []) : Z X 0 p l e rm_X9_forgetOldest s m args below meth c 0 0 (MQ below (QV X 0 N s.heap.size) args s 0 0 (AA X 0 s.heap.size)) 3 M 9 [(0, .ref (X.2.2 1)), (1, .ref (X.2.2 v1)), (2, .int v2)] [] := by
  unfold f_X9_forgetOldest_L9 at he
  refine z_iload_n S dX9_forgetOldest_9 rfl 2 rfl ?_
  refine z_aload_n S dX9_forgetOldest_10 rfl 0 rfl ?_
  refine z_getF (j := 3) S fo_RX9_43 2 rfl rfl ok_1 dX9_forgetOldest_11 ?_
  refine z_alen (v := 12) S ok_3 (cel_m ok_3.2.2) rfl rfl rfl dX9_forgetOldest_14 ?_
  refine z_icmp_ge (tgt := 38) S he dX9_forgetOldest_15 (by decide) (fun he => ?_) (fun he => ?_)
  · refine z_lv (ks := [0, 1]) rfl ?_
    exact hx _ (Option.some.inj he).symm
  · refine z_aload_n S dX9_forgetOldest_18 rfl 0 rfl ?_
    refine z_getF (j := 3) S fo_RX9_43 2 rfl rfl ok_1 dX9_forgetOldest_19 ?_
    refine z_iload_n S dX9_forgetOldest_22 rfl 2 rfl ?_
    refine z_iconst (v := 1) S dX9_forgetOldest_23 (by decide) ?_
    refine z_isub S dX9_forgetOldest_24 ?_
    refine z_aload_n S dX9_forgetOldest_25 rfl 0 rfl ?_
    refine z_getF (j := 3) S fo_RX9_43 2 rfl rfl ok_1 dX9_forgetOldest_26 ?_
    refine z_iload_n S dX9_forgetOldest_29 rfl 2 rfl ?_
    refine z_mald S ok_3 rfl he dX9_forgetOldest_30 (fun q2 hq2 he => ?_)
    refine z_mast S ok_3 rfl (okk4 hq2) he dX9_forgetOldest_31 (fun M3 he => ?_)
    refine z_iinc (v := (v2 + 1)) (lv' := [(0, .ref (X.2.2 1)), (1, .ref (X.2.2 v1)), (2, .int (v2 + 1))]) S [1, 2, 0] 2 dX9_forgetOldest_32 rfl (by rfl) (by decide) rfl ?_
    refine z_goto (tgt := 9) S dX9_forgetOldest_35 (by decide) ?_
    refine z_lv (ks := [0, 1, 2]) rfl ?_
    exact hc _ (Option.some.inj he).symm
set_option maxRecDepth 100000 in
set_option maxHeartbeats 4000000 in
theorem K_X9_forgetOldest {X : Cx} {l : Launch} {M : Mm} {N : Mm}  (he : f_X9_forgetOldest M  = some N) : KV X 0 l yX9_forgetOldest (wz yX9_forgetOldest cX9_forgetOldest 3 none) rm_X9_forgetOldest [.ref (X.2.2 1)] M N := by
  intro sz
  refine K_of (Qc := (fun sz => QV X 0 N sz)) (own := RX9) (lv0 := [(0, .ref (X.2.2 1))]) (by decide +kernel) rfl (Nat.le_of_ble_eq_true rfl) rfl (fun p e s m args below meth c S => ?_) sz
  · unfold f_X9_forgetOldest at he
    refine z_aload_n S dX9_forgetOldest_0 rfl 0 rfl ?_
    refine z_getF (j := 3) S fo_RX9_43 2 rfl rfl ok_1 dX9_forgetOldest_1 ?_
    refine z_iconst (v := 0) S dX9_forgetOldest_4 (by decide) ?_
    refine z_mald S ok_3 rfl he dX9_forgetOldest_5 (fun q1 hq1 he => ?_)
    refine z_astore_n (lv' := [(0, .ref (X.2.2 1)), (1, .ref (X.2.2 q1))]) S [1, 0] dX9_forgetOldest_6 rfl (by decide) rfl ?_
    refine z_iconst (v := 1) S dX9_forgetOldest_7 (by decide) ?_
    refine z_istore_n (lv' := [(0, .ref (X.2.2 1)), (1, .ref (X.2.2 q1)), (2, .int 1)]) S [1, 2, 0] dX9_forgetOldest_8 rfl (by decide) rfl ?_
    obtain ⟨e_4, hl, he⟩ := bnd he
    have hX : Z X 0 p l e rm_X9_forgetOldest s m args below meth c 0 0 (MQ below (QV X 0 N s.heap.size) args s 0 0 (AA X 0 s.heap.size)) 3 e_4 38 [(0, .ref (X.2.2 1)), (1, .ref (X.2.2 q1))] [] := by
      refine z_aload_n S dX9_forgetOldest_38 rfl 0 rfl ?_
      refine z_getF (j := 3) S fo_RX9_43 2 rfl rfl ok_1 dX9_forgetOldest_39 ?_
      refine z_aload_n S dX9_forgetOldest_42 rfl 0 rfl ?_
      refine z_getF (j := 3) S fo_RX9_43 2 rfl rfl ok_1 dX9_forgetOldest_43 ?_
      refine z_alen (v := 12) S ok_3 (cel_m ok_3.2.2) rfl rfl rfl dX9_forgetOldest_46 ?_
      refine z_iconst (v := 1) S dX9_forgetOldest_47 (by decide) ?_
      refine z_isub S dX9_forgetOldest_48 ?_
      refine z_aload_n S dX9_forgetOldest_49 rfl 1 rfl ?_
      refine z_mast S ok_3 rfl (okk4 hq1) he dX9_forgetOldest_50 (fun M5 he => ?_)
      refine z_aload_n S dX9_forgetOldest_51 rfl 0 rfl ?_
      refine z_aload_n S dX9_forgetOldest_52 rfl 0 rfl ?_
      refine z_getF (j := 3) S fo_RX9_43 2 rfl rfl ok_1 dX9_forgetOldest_53 ?_
      refine z_alen (v := 12) S ok_3 (cel_m ok_3.2.2) rfl rfl rfl dX9_forgetOldest_56 ?_
      refine z_iconst (v := 1) S dX9_forgetOldest_57 (by decide) ?_
      refine z_isub S dX9_forgetOldest_58 ?_
      refine z_putIb S fo_RX9_129p rfl ok_1 rfl rfl he dX9_forgetOldest_59 (fun M6 he => ?_)
      exact z_vret S (Option.some.inj he) dX9_forgetOldest_62
    have hZ9 := loopZ (f := (fun a_4 => f_X9_forgetOldest_L9 a_4.1 q1 a_4.2)) (Zh := (fun a_4 => Z X 0 p l e rm_X9_forgetOldest s m args below meth c 0 0 (MQ below (QV X 0 N s.heap.size) args s 0 0 (AA X 0 s.heap.size)) 3 a_4.1 9 [(0, .ref (X.2.2 1)), (1, .ref (X.2.2 q1)), (2, .int a_4.2)] [])) (fun a_4 x hb hc hr => p_X9_forgetOldest_L9 S (okk4 hq1) hb hc (fun b hxe => by rw [hr b hxe]; exact hX)) FU (M, 1) hl
    exact hZ9
set_option maxRecDepth 100000 in
set_option maxHeartbeats 4000000 in
theorem p_X9_remember_J16 {X : Cx} {p : Program} {l : Launch} {e : Env} {s : State} {m : MethodId} {args : Array Value} {below : List Frame} {meth : Method} {c : Code} (S : SB X 0 p s m args meth c cX9_remember 1 none RX9) {M : Mm} {N : Mm}  (he : f_X9_remember_J16 M  = some N) : Z X 0 p l e rm_X9_remember s m args below meth c 0 0 (MQ below (QV X 0 N s.heap.size) args s 0 0 (AA X 0 s.heap.size)) 1 M 16 [(0, .ref (X.2.2 1))] [] := by
  unfold f_X9_remember_J16 at he
  refine z_aload_n S dX9_remember_16 rfl 0 rfl ?_
  refine z_getI S fo_RX9_129 rfl ok_1 dX9_remember_17 ?_
  refine z_if_lt (tgt := 61) S he dX9_remember_20 (by decide) (fun he => ?_) (fun he => ?_)
  · exact z_vret S (Option.some.inj he) dX9_remember_61
  · refine z_aload_n S dX9_remember_23 rfl 0 rfl ?_
    refine z_getI S fo_RX9_129 rfl ok_1 dX9_remember_24 ?_
    refine z_aload_n S dX9_remember_27 rfl 0 rfl ?_
    refine z_getF (j := 3) S fo_RX9_43 2 rfl rfl ok_1 dX9_remember_28 ?_
    refine z_alen (v := 12) S ok_3 (cel_m ok_3.2.2) rfl rfl rfl dX9_remember_31 ?_
    refine z_icmp_ge (tgt := 61) S he dX9_remember_32 (by decide) (fun he => ?_) (fun he => ?_)
    · exact z_vret S (Option.some.inj he) dX9_remember_61
    · refine z_aload_n S dX9_remember_35 rfl 0 rfl ?_
      refine z_getF (j := 3) S fo_RX9_43 2 rfl rfl ok_1 dX9_remember_36 ?_
      refine z_aload_n S dX9_remember_39 rfl 0 rfl ?_
      refine z_getI S fo_RX9_129 rfl ok_1 dX9_remember_40 ?_
      refine z_mald S ok_3 rfl he dX9_remember_43 (fun q1 hq1 he => ?_)
      refine z_aload_n S dX9_remember_44 rfl 0 rfl ?_
      refine z_getGb (k2 := 4) S fo_RX9_20 rfl ok_1 (by decide) he dX9_remember_45 (fun q2 hq2 he => ?_)
      obtain ⟨M3, h9, he⟩ := bnd he
      refine z_cVV (As := [.ref (X.2.2 q2)]) S cv_RX9_93 (K_X4_copyFrom (okk4 hq1) (okk4 hq2) h9) (okk4 hq1) (by decide) (q := (RX4, TX4, 10)) rfl rfl ⟨rfl, rfl⟩ ⟨Nat.le_of_ble_eq_true rfl, Nat.le_of_ble_eq_true rfl⟩ ⟨Nat.le_refl _, Nat.le_refl _⟩ rfl rfl (Nat.le_of_ble_eq_true rfl) dX9_remember_48 ?_
      refine z_aload_n S dX9_remember_51 rfl 0 rfl ?_
      refine z_dup S rfl dX9_remember_52 ?_
      refine z_getI S fo_RX9_129 rfl ok_1 dX9_remember_53 ?_
      refine z_iconst (v := 1) S dX9_remember_56 (by decide) ?_
      refine z_iadd S dX9_remember_57 ?_
      refine z_putIb S fo_RX9_129p rfl ok_1 rfl rfl he dX9_remember_58 (fun M4 he => ?_)
      exact z_vret S (Option.some.inj he) dX9_remember_61
set_option maxRecDepth 100000 in
set_option maxHeartbeats 4000000 in
theorem K_X9_remember {X : Cx} {l : Launch} {M : Mm} {N : Mm}  (he : f_X9_remember M  = some N) : KV X 0 l yX9_remember (wz yX9_remember cX9_remember 1 none) rm_X9_remember [.ref (X.2.2 1)] M N := by
  intro sz
  refine K_of (Qc := (fun sz => QV X 0 N sz)) (own := RX9) (lv0 := [(0, .ref (X.2.2 1))]) (by decide +kernel) rfl (Nat.le_of_ble_eq_true rfl) rfl (fun p e s m args below meth c S => ?_) sz
  · unfold f_X9_remember at he
    refine z_aload_n S dX9_remember_0 rfl 0 rfl ?_
    refine z_getI S fo_RX9_129 rfl ok_1 dX9_remember_1 ?_
    refine z_aload_n S dX9_remember_4 rfl 0 rfl ?_
    refine z_getF (j := 3) S fo_RX9_43 2 rfl rfl ok_1 dX9_remember_5 ?_
    refine z_alen (v := 12) S ok_3 (cel_m ok_3.2.2) rfl rfl rfl dX9_remember_8 ?_
    refine z_icmp_lt (tgt := 16) S he dX9_remember_9 (by decide) (fun he => ?_) (fun he => ?_)
    · exact p_X9_remember_J16 S  he
    · refine z_aload_n S dX9_remember_12 rfl 0 rfl ?_
      obtain ⟨M5, h9, he⟩ := bnd he
      refine z_cVV (As := []) S cv_RX9_246 (K_X9_forgetOldest  h9) ok_1 (by decide) (q := (RX9, TX9, 17)) rfl rfl ⟨rfl, rfl⟩ ⟨Nat.le_of_ble_eq_true rfl, Nat.le_of_ble_eq_true rfl⟩ ⟨Nat.le_refl _, Nat.le_refl _⟩ rfl rfl (Nat.le_of_ble_eq_true rfl) dX9_remember_13 ?_
      exact p_X9_remember_J16 S  he
set_option maxRecDepth 100000 in
set_option maxHeartbeats 4000000 in
theorem p_X9_clean_J15 {X : Cx} {p : Program} {l : Launch} {e : Env} {s : State} {m : MethodId} {args : Array Value} {below : List Frame} {meth : Method} {c : Code} (hl0 : l.stackTraces = false) (T0 : ∀ x ∈ c.exceptionTable.toList, False) (S : SB X 0 p s m args meth c cX9_clean 4 (some .int) RX9) {M : Mm} {rx : ((Int32 × Mm) ⊕ (Nat × Mm))}  (he : f_X9_clean_J15 M  = some rx) : Z X 0 p l e rm_X9_clean s m args below meth c 1 6 (vx_MQ below (QXI X 0 rx s.heap.size) (XCX X 0 rx s.heap.size) args s 2 12 (AA X 0 s.heap.size)) 4 M 15 [] [] := by
  unfold f_X9_clean_J15 at he
  exact z_throw S hl0 T0 tx_RX9_114_221_118 (k := 1) rfl (Option.some.inj he) dX9_clean_15 dX9_clean_18 dX9_clean_19 dX9_clean_21 dX9_clean_24 (Nat.le_of_ble_eq_true rfl) (Nat.le_of_ble_eq_true rfl) (Nat.le_of_ble_eq_true rfl) (Nat.le_of_ble_eq_true rfl) (by decide) (by decide)
set_option maxRecDepth 100000 in
set_option maxHeartbeats 4000000 in
theorem K_X9_clean {X : Cx} {l : Launch} (hl0 : l.stackTraces = false) {M : Mm} {a1 : Int32} {a2 : Int32} {rx : ((Int32 × Mm) ⊕ (Nat × Mm))}  (he : f_X9_clean M a1 a2 = some rx) : KXI X 0 l yX9_clean (wz yX9_clean cX9_clean 4 (some .int)) rm_X9_clean 2 12 [.ref (X.2.2 1), .int a1, .int a2] M rx := by
  intro sz
  refine KX_of (Qc := fun sz => QXI X 0 rx sz) (XC := fun sz => XCX X 0 rx sz) (own := RX9) (lv0 := [(0, .ref (X.2.2 1)), (1, .int a1), (2, .int a2)]) (by decide +kernel) rfl (Nat.le_of_ble_eq_true rfl) rfl (fun p e s m args below meth c S T0 => ?_) sz
  · unfold f_X9_clean at he
    refine z_aload_n S dX9_clean_0 rfl 0 rfl ?_
    refine z_iload_n S dX9_clean_1 rfl 1 rfl ?_
    obtain ⟨r9, h9, hr1, hr2⟩ := bndS he
    refine z_xVV (As := [.int a1]) S cv_RX9_169 (K_X9_needVisitor hl0  h9) ok_1 (by decide) (q := (RX9, TX9, 17)) rfl rfl ⟨rfl, rfl⟩ ⟨Nat.le_of_ble_eq_true rfl, Nat.le_of_ble_eq_true rfl⟩ ⟨Nat.le_of_ble_eq_true rfl, Nat.le_of_ble_eq_true rfl⟩ rfl rfl (Nat.le_of_ble_eq_true rfl) dX9_clean_2 T0 (by decide) (by decide) (fun q hq => Option.some.inj (hr2 q hq)) (fun e_0 hE => ?_)
    have he := hr1 _ hE
    refine z_iload_n S dX9_clean_5 rfl 2 rfl ?_
    refine z_if_lt (tgt := 15) S he dX9_clean_6 (by decide) (fun he => ?_) (fun he => ?_)
    · refine z_lv (ks := []) rfl ?_
      exact p_X9_clean_J15 hl0 T0 S  he
    · refine z_iload_n S dX9_clean_9 rfl 2 rfl ?_
      refine z_bipush (v := 10) S dX9_clean_10 (by decide) ?_
      refine z_icmp_lt (tgt := 25) S he dX9_clean_12 (by decide) (fun he => ?_) (fun he => ?_)
      · refine z_aload_n S dX9_clean_25 rfl 0 rfl ?_
        obtain ⟨M2, h9, he⟩ := bnd he
        refine z_cVV (As := []) S cv_RX9_209 (K_X9_remember  h9) ok_1 (by decide) (q := (RX9, TX9, 17)) rfl rfl ⟨rfl, rfl⟩ ⟨Nat.le_of_ble_eq_true rfl, Nat.le_of_ble_eq_true rfl⟩ ⟨Nat.le_of_ble_eq_true rfl, Nat.le_of_ble_eq_true rfl⟩ rfl rfl (Nat.le_of_ble_eq_true rfl) dX9_clean_26 ?_
        refine z_aload_n S dX9_clean_29 rfl 0 rfl ?_
        refine z_getGb (k2 := 4) S fo_RX9_20 rfl ok_1 (by decide) he dX9_clean_30 (fun q3 hq3 he => ?_)
        refine z_iload_n S dX9_clean_33 rfl 1 rfl ?_
        refine z_iconst (v := 1) S dX9_clean_34 (by decide) ?_
        refine z_cVI (As := [.int a1, .int 1]) S cv_RX9_174 (K_X4_ofVisitor (okk4 hq3) rfl) (okk4 hq3) (by decide) (q := (RX4, TX4, 10)) rfl rfl ⟨rfl, rfl⟩ ⟨Nat.le_of_ble_eq_true rfl, Nat.le_of_ble_eq_true rfl⟩ ⟨Nat.le_of_ble_eq_true rfl, Nat.le_of_ble_eq_true rfl⟩ rfl rfl (Nat.le_of_ble_eq_true rfl) dX9_clean_35 ?_
        obtain ⟨x4, ex4, he⟩ := bnd he
        rw [Option.some.inj ex4]
        refine z_istore_n (lv' := [(0, .ref (X.2.2 1)), (1, .int a1), (2, .int a2), (3, .int x4)]) S [1, 2, 3, 0] dX9_clean_38 rfl (by decide) rfl ?_
        refine z_aload_n S dX9_clean_39 rfl 0 rfl ?_
        refine z_getGb (k2 := 4) S fo_RX9_20 rfl ok_1 (by decide) he dX9_clean_40 (fun q5 hq5 he => ?_)
        refine z_iload_n S dX9_clean_43 rfl 1 rfl ?_
        refine z_iconst (v := 1) S dX9_clean_44 (by decide) ?_
        refine z_iload_n S dX9_clean_45 rfl 2 rfl ?_
        obtain ⟨M6, h9, he⟩ := bnd he
        refine z_cVV (As := [.int a1, .int 1, .int a2]) S cv_RX9_223 (K_X4_setVisitor (okk4 hq5) (Option.some.inj h9)) (okk4 hq5) (by decide) (q := (RX4, TX4, 10)) rfl rfl ⟨rfl, rfl⟩ ⟨Nat.le_of_ble_eq_true rfl, Nat.le_of_ble_eq_true rfl⟩ ⟨Nat.le_of_ble_eq_true rfl, Nat.le_of_ble_eq_true rfl⟩ rfl rfl (Nat.le_of_ble_eq_true rfl) dX9_clean_46 ?_
        refine z_iload_n S dX9_clean_49 rfl 3 rfl ?_
        exact z_xiret S (Option.some.inj he) (by decide) (by decide) dX9_clean_50
      · refine z_lv (ks := []) rfl ?_
        exact p_X9_clean_J15 hl0 T0 S  he
set_option maxRecDepth 100000 in
set_option maxHeartbeats 4000000 in
theorem p_X9_comes_L18 {X : Cx} {p : Program} {l : Launch} {e : Env} {s : State} {m : MethodId} {args : Array Value} {below : List Frame} {meth : Method} {c : Code} (hl0 : l.stackTraces = false) (T0 : ∀ x ∈ c.exceptionTable.toList, False) (S : SB X 0 p s m args meth c cX9_comes 3 (some .int) RX9) {M : Mm} {rx : ((Int32 × Mm) ⊕ (Nat × Mm))} {v1 : Int32} {v2 : Int32} {x : (Mm × Int32) ⊕ ((((Int32 × Mm) ⊕ (Nat × Mm))) ⊕ Mm)}  (he : f_X9_comes_L18 M v1 v2 = some x) (hc : ∀ b, x = .inl b → Z X 0 p l e rm_X9_comes s m args below meth c 1 6 (vx_MQ below (QXI X 0 rx s.heap.size) (XCX X 0 rx s.heap.size) args s 1 6 (AA X 0 s.heap.size)) 3 b.1 18 [(0, .ref (X.2.2 1)), (1, .int v1), (2, .int b.2)] []) (hx : ∀ b, x = .inr (.inr b) → Z X 0 p l e rm_X9_comes s m args below meth c 1 6 (vx_MQ below (QXI X 0 rx s.heap.size) (XCX X 0 rx s.heap.size) args s 1 6 (AA X 0 s.heap.size)) 3 b 60 [] []) (hr : ∀ v, x = .inr (.inl v) → v = rx) : Z X 0 p l e rm_X9_comes s m args below meth c 1 6 (vx_MQ below (QXI X 0 rx s.heap.size) (XCX X 0 rx s.heap.size) args s 1 6 (AA X 0 s.heap.size)) 3 M 18 [(0, .ref (X.2.2 1)), (1, .int v1), (2, .int v2)] [] := by
  unfold f_X9_comes_L18 at he
  refine z_iload_n S dX9_comes_18 rfl 2 rfl ?_
  refine z_bipush (v := 30) S dX9_comes_19 (by decide) ?_
  refine z_icmp_gt (tgt := 60) S he dX9_comes_21 (by decide) (fun he => ?_) (fun he => ?_)
  · refine z_lv (ks := []) rfl ?_
    exact hx _ (Option.some.inj he).symm
  · refine z_aload_n S dX9_comes_24 rfl 0 rfl ?_
    refine z_getF (j := 82) S fo_RX9_50 81 rfl rfl ok_1 dX9_comes_25 ?_
    refine z_aload_n S dX9_comes_28 rfl 0 rfl ?_
    refine z_getGb (k2 := 4) S fo_RX9_24 rfl ok_1 (by decide) he dX9_comes_29 (fun q5 hq5 he => ?_)
    refine z_aload_n S dX9_comes_32 rfl 0 rfl ?_
    refine z_getGb (k2 := 2) S fo_RX9_30 rfl ok_1 (by decide) he dX9_comes_33 (fun q6 hq6 he => ?_)
    refine z_iconst (v := 0) S dX9_comes_36 (by decide) ?_
    obtain ⟨⟨r7, M8⟩, h9, he⟩ := bnd he
    dsimp only at he
    refine z_cVI (As := [.ref (X.2.2 q5), .ref (X.2.2 q6), .int 0]) S cv_RX9_242 (K_X6_passDay (okk4 hq5) (okk2 hq6) h9) ok_82 (by decide) (q := (RX6, TX6, 4)) rfl rfl ⟨rfl, rfl⟩ ⟨Nat.le_of_ble_eq_true rfl, Nat.le_of_ble_eq_true rfl⟩ ⟨Nat.le_of_ble_eq_true rfl, Nat.le_of_ble_eq_true rfl⟩ rfl rfl (Nat.le_of_ble_eq_true rfl) dX9_comes_37 ?_
    refine z_pop S rfl dX9_comes_40 ?_
    refine z_aload_n S dX9_comes_41 rfl 0 rfl ?_
    refine z_getF (j := 82) S fo_RX9_50 81 rfl rfl ok_1 dX9_comes_42 ?_
    refine z_iload_n S dX9_comes_45 rfl 1 rfl ?_
    obtain ⟨r9, h9, he⟩ := bnd he
    refine z_cVI (As := [.int v1]) S cv_RX9_162 (K_X6_hadBy  h9) ok_82 (by decide) (q := (RX6, TX6, 4)) rfl rfl ⟨rfl, rfl⟩ ⟨Nat.le_of_ble_eq_true rfl, Nat.le_of_ble_eq_true rfl⟩ ⟨Nat.le_of_ble_eq_true rfl, Nat.le_of_ble_eq_true rfl⟩ rfl rfl (Nat.le_of_ble_eq_true rfl) dX9_comes_46 ?_
    refine z_if_eq (tgt := 54) S he dX9_comes_49 (by decide) (fun he => ?_) (fun he => ?_)
    · refine z_iinc (v := (v2 + 1)) (lv' := [(0, .ref (X.2.2 1)), (1, .int v1), (2, .int (v2 + 1))]) S [1, 2, 0] 2 dX9_comes_54 rfl (by rfl) (by decide) rfl ?_
      refine z_goto (tgt := 18) S dX9_comes_57 (by decide) ?_
      refine z_lv (ks := [0, 1, 2]) rfl ?_
      exact hc _ (Option.some.inj he).symm
    · refine z_iload_n S dX9_comes_52 rfl 2 rfl ?_
      exact z_xiret S (hr _ (Option.some.inj he).symm) (by decide) (by decide) dX9_comes_53
set_option maxRecDepth 100000 in
set_option maxHeartbeats 4000000 in
theorem K_X9_comes {X : Cx} {l : Launch} (hl0 : l.stackTraces = false) {M : Mm} {a1 : Int32} {rx : ((Int32 × Mm) ⊕ (Nat × Mm))}  (he : f_X9_comes M a1 = some rx) : KXI X 0 l yX9_comes (wz yX9_comes cX9_comes 3 (some .int)) rm_X9_comes 1 6 [.ref (X.2.2 1), .int a1] M rx := by
  intro sz
  refine KX_of (Qc := fun sz => QXI X 0 rx sz) (XC := fun sz => XCX X 0 rx sz) (own := RX9) (lv0 := [(0, .ref (X.2.2 1)), (1, .int a1)]) (by decide +kernel) rfl (Nat.le_of_ble_eq_true rfl) rfl (fun p e s m args below meth c S T0 => ?_) sz
  · unfold f_X9_comes at he
    refine z_aload_n S dX9_comes_0 rfl 0 rfl ?_
    refine z_iload_n S dX9_comes_1 rfl 1 rfl ?_
    obtain ⟨r9, h9, hr1, hr2⟩ := bndS he
    refine z_xVV (As := [.int a1]) S cv_RX9_139 (K_X9_needThing hl0  h9) ok_1 (by decide) (q := (RX9, TX9, 17)) rfl rfl ⟨rfl, rfl⟩ ⟨Nat.le_of_ble_eq_true rfl, Nat.le_of_ble_eq_true rfl⟩ ⟨Nat.le_of_ble_eq_true rfl, Nat.le_of_ble_eq_true rfl⟩ rfl rfl (Nat.le_of_ble_eq_true rfl) dX9_comes_2 T0 (by decide) (by decide) (fun q hq => Option.some.inj (hr2 q hq)) (fun e_0 hE => ?_)
    have he := hr1 _ hE
    refine z_aload_n S dX9_comes_5 rfl 0 rfl ?_
    refine z_getGb (k2 := 4) S fo_RX9_24 rfl ok_1 (by decide) he dX9_comes_6 (fun q2 hq2 he => ?_)
    refine z_aload_n S dX9_comes_9 rfl 0 rfl ?_
    refine z_getGb (k2 := 4) S fo_RX9_20 rfl ok_1 (by decide) he dX9_comes_10 (fun q3 hq3 he => ?_)
    obtain ⟨M4, h9, he⟩ := bnd he
    refine z_cVV (As := [.ref (X.2.2 q3)]) S cv_RX9_93 (K_X4_copyFrom (okk4 hq2) (okk4 hq3) h9) (okk4 hq2) (by decide) (q := (RX4, TX4, 10)) rfl rfl ⟨rfl, rfl⟩ ⟨Nat.le_of_ble_eq_true rfl, Nat.le_of_ble_eq_true rfl⟩ ⟨Nat.le_of_ble_eq_true rfl, Nat.le_of_ble_eq_true rfl⟩ rfl rfl (Nat.le_of_ble_eq_true rfl) dX9_comes_13 ?_
    refine z_iconst (v := 1) S dX9_comes_16 (by decide) ?_
    refine z_istore_n (lv' := [(0, .ref (X.2.2 1)), (1, .int a1), (2, .int 1)]) S [1, 2, 0] dX9_comes_17 rfl (by decide) rfl ?_
    obtain ⟨r9, hl, hr1, hr2⟩ := bndS he
    have hX : ∀ e_10, r9 = .inr e_10 → Z X 0 p l e rm_X9_comes s m args below meth c 1 6 (vx_MQ below (QXI X 0 rx s.heap.size) (XCX X 0 rx s.heap.size) args s 1 6 (AA X 0 s.heap.size)) 3 e_10 60 [] [] := by
      intro e_10 hre
      have he := hr2 e_10 hre
      refine z_iconst (v := (-1)) S dX9_comes_60 (by decide) ?_
      exact z_xiret S (Option.some.inj he) (by decide) (by decide) dX9_comes_61
    have hZ9 := loopZ (f := (fun a_10 => f_X9_comes_L18 a_10.1 a1 a_10.2)) (Zh := (fun a_10 => Z X 0 p l e rm_X9_comes s m args below meth c 1 6 (vx_MQ below (QXI X 0 rx s.heap.size) (XCX X 0 rx s.heap.size) args s 1 6 (AA X 0 s.heap.size)) 3 a_10.1 18 [(0, .ref (X.2.2 1)), (1, .int a1), (2, .int a_10.2)] [])) (fun a_10 x hb hc hr9 => p_X9_comes_L18 hl0 T0 S  hb hc (fun b hxe => hX b (hr9 _ hxe).symm) (fun v hxv => Option.some.inj (hr1 v (hr9 _ hxv).symm))) FU (M4, 1) hl
    exact hZ9
set_option maxRecDepth 100000 in
set_option maxHeartbeats 4000000 in
theorem K_X9_count {X : Cx} {l : Launch} {M : Mm} {a1 : Int32} {r : Int32}  (he : f_X9_count M a1 = some r) : KI X 0 l yX9_count (wz yX9_count cX9_count 2 (some .int)) rm_X9_count [.ref (X.2.2 1), .int a1] M r M := by
  intro sz
  refine K_of (Qc := (fun sz => QI X 0 r M sz)) (own := RX9) (lv0 := [(0, .ref (X.2.2 1)), (1, .int a1)]) (by decide +kernel) rfl (Nat.le_of_ble_eq_true rfl) rfl (fun p e s m args below meth c S => ?_) sz
  · unfold f_X9_count at he
    refine z_iload_n S dX9_count_0 rfl 1 rfl ?_
    rcases z_sw he with ⟨hk0, he⟩ | ⟨hk0, he⟩
    · refine z_tabIn (tgt := 64) S dX9_count_1 hk0 (by decide) (by decide) rfl (by decide) ?_
      refine z_aload_n S dX9_count_64 rfl 0 rfl ?_
      refine z_getGb (k2 := 4) S fo_RX9_20 rfl ok_1 (by decide) he dX9_count_65 (fun q1 hq1 he => ?_)
      refine z_getI S fo_RX9_191 rfl (okk4 hq1) dX9_count_68 ?_
      exact z_iret S (⟨Option.some.inj he, rfl⟩) dX9_count_71
    rcases z_sw he with ⟨hk1, he⟩ | ⟨hk1, he⟩
    · refine z_tabIn (tgt := 72) S dX9_count_1 hk1 (by decide) (by decide) rfl (by decide) ?_
      refine z_aload_n S dX9_count_72 rfl 0 rfl ?_
      refine z_getGb (k2 := 4) S fo_RX9_20 rfl ok_1 (by decide) he dX9_count_73 (fun q2 hq2 he => ?_)
      refine z_getI S fo_RX9_289 rfl (okk4 hq2) dX9_count_76 ?_
      exact z_iret S (⟨Option.some.inj he, rfl⟩) dX9_count_79
    rcases z_sw he with ⟨hk2, he⟩ | ⟨hk2, he⟩
    · refine z_tabIn (tgt := 80) S dX9_count_1 hk2 (by decide) (by decide) rfl (by decide) ?_
      refine z_aload_n S dX9_count_80 rfl 0 rfl ?_
      refine z_getGb (k2 := 4) S fo_RX9_20 rfl ok_1 (by decide) he dX9_count_81 (fun q3 hq3 he => ?_)
      refine z_getI S fo_RX9_121 rfl (okk4 hq3) dX9_count_84 ?_
      exact z_iret S (⟨Option.some.inj he, rfl⟩) dX9_count_87
    rcases z_sw he with ⟨hk3, he⟩ | ⟨hk3, he⟩
    · refine z_tabIn (tgt := 88) S dX9_count_1 hk3 (by decide) (by decide) rfl (by decide) ?_
      refine z_aload_n S dX9_count_88 rfl 0 rfl ?_
      refine z_getGb (k2 := 2) S fo_RX9_30 rfl ok_1 (by decide) he dX9_count_89 (fun q4 hq4 he => ?_)
      refine z_getI S fo_RX9_136 rfl (okk2 hq4) dX9_count_92 ?_
      exact z_iret S (⟨Option.some.inj he, rfl⟩) dX9_count_95
    rcases z_sw he with ⟨hk4, he⟩ | ⟨hk4, he⟩
    · refine z_tabIn (tgt := 96) S dX9_count_1 hk4 (by decide) (by decide) rfl (by decide) ?_
      refine z_aload_n S dX9_count_96 rfl 0 rfl ?_
      refine z_getGb (k2 := 4) S fo_RX9_20 rfl ok_1 (by decide) he dX9_count_97 (fun q5 hq5 he => ?_)
      refine z_getI S fo_RX9_355 rfl (okk4 hq5) dX9_count_100 ?_
      exact z_iret S (⟨Option.some.inj he, rfl⟩) dX9_count_103
    rcases z_sw he with ⟨hk5, he⟩ | ⟨hk5, he⟩
    · refine z_tabIn (tgt := 104) S dX9_count_1 hk5 (by decide) (by decide) rfl (by decide) ?_
      refine z_aload_n S dX9_count_104 rfl 0 rfl ?_
      refine z_getGb (k2 := 4) S fo_RX9_20 rfl ok_1 (by decide) he dX9_count_105 (fun q6 hq6 he => ?_)
      refine z_getI S fo_RX9_358 rfl (okk4 hq6) dX9_count_108 ?_
      exact z_iret S (⟨Option.some.inj he, rfl⟩) dX9_count_111
    rcases z_sw he with ⟨hk6, he⟩ | ⟨hk6, he⟩
    · refine z_tabIn (tgt := 112) S dX9_count_1 hk6 (by decide) (by decide) rfl (by decide) ?_
      refine z_aload_n S dX9_count_112 rfl 0 rfl ?_
      refine z_getGb (k2 := 4) S fo_RX9_20 rfl ok_1 (by decide) he dX9_count_113 (fun q7 hq7 he => ?_)
      obtain ⟨r8, h9, he⟩ := bnd he
      refine z_cVI (As := []) S cv_RX9_361 (K_X4_shownThings (okk4 hq7) h9) (okk4 hq7) (by decide) (q := (RX4, TX4, 10)) rfl rfl ⟨rfl, rfl⟩ ⟨Nat.le_of_ble_eq_true rfl, Nat.le_of_ble_eq_true rfl⟩ ⟨Nat.le_refl _, Nat.le_refl _⟩ rfl rfl (Nat.le_of_ble_eq_true rfl) dX9_count_116 ?_
      exact z_iret S (⟨Option.some.inj he, rfl⟩) dX9_count_119
    rcases z_sw he with ⟨hk7, he⟩ | ⟨hk7, he⟩
    · refine z_tabIn (tgt := 120) S dX9_count_1 hk7 (by decide) (by decide) rfl (by decide) ?_
      refine z_aload_n S dX9_count_120 rfl 0 rfl ?_
      refine z_getGb (k2 := 4) S fo_RX9_20 rfl ok_1 (by decide) he dX9_count_121 (fun q9 hq9 he => ?_)
      refine z_iconst (v := 4) S dX9_count_124 (by decide) ?_
      obtain ⟨r10, h9, he⟩ := bnd he
      refine z_cVI (As := [.int 4]) S cv_RX9_364 (K_X4_sumOfThings (okk4 hq9) h9) (okk4 hq9) (by decide) (q := (RX4, TX4, 10)) rfl rfl ⟨rfl, rfl⟩ ⟨Nat.le_of_ble_eq_true rfl, Nat.le_of_ble_eq_true rfl⟩ ⟨Nat.le_refl _, Nat.le_refl _⟩ rfl rfl (Nat.le_of_ble_eq_true rfl) dX9_count_125 ?_
      exact z_iret S (⟨Option.some.inj he, rfl⟩) dX9_count_128
    rcases z_sw he with ⟨hk8, he⟩ | ⟨hk8, he⟩
    · refine z_tabIn (tgt := 129) S dX9_count_1 hk8 (by decide) (by decide) rfl (by decide) ?_
      refine z_aload_n S dX9_count_129 rfl 0 rfl ?_
      refine z_getGb (k2 := 4) S fo_RX9_20 rfl ok_1 (by decide) he dX9_count_130 (fun q11 hq11 he => ?_)
      refine z_iconst (v := 2) S dX9_count_133 (by decide) ?_
      obtain ⟨r12, h9, he⟩ := bnd he
      refine z_cVI (As := [.int 2]) S cv_RX9_364 (K_X4_sumOfThings (okk4 hq11) h9) (okk4 hq11) (by decide) (q := (RX4, TX4, 10)) rfl rfl ⟨rfl, rfl⟩ ⟨Nat.le_of_ble_eq_true rfl, Nat.le_of_ble_eq_true rfl⟩ ⟨Nat.le_refl _, Nat.le_refl _⟩ rfl rfl (Nat.le_of_ble_eq_true rfl) dX9_count_134 ?_
      exact z_iret S (⟨Option.some.inj he, rfl⟩) dX9_count_137
    rcases z_sw he with ⟨hk9, he⟩ | ⟨hk9, he⟩
    · refine z_tabIn (tgt := 138) S dX9_count_1 hk9 (by decide) (by decide) rfl (by decide) ?_
      refine z_aload_n S dX9_count_138 rfl 0 rfl ?_
      refine z_getGb (k2 := 4) S fo_RX9_20 rfl ok_1 (by decide) he dX9_count_139 (fun q13 hq13 he => ?_)
      refine z_getI S fo_RX9_367 rfl (okk4 hq13) dX9_count_142 ?_
      exact z_iret S (⟨Option.some.inj he, rfl⟩) dX9_count_145
    rcases z_sw he with ⟨hk10, he⟩ | ⟨hk10, he⟩
    · refine z_tabIn (tgt := 146) S dX9_count_1 hk10 (by decide) (by decide) rfl (by decide) ?_
      refine z_aload_n S dX9_count_146 rfl 0 rfl ?_
      refine z_getGb (k2 := 4) S fo_RX9_20 rfl ok_1 (by decide) he dX9_count_147 (fun q14 hq14 he => ?_)
      refine z_cVI (As := []) S cv_RX9_342 (K_X4_logRows (okk4 hq14) rfl) (okk4 hq14) (by decide) (q := (RX4, TX4, 10)) rfl rfl ⟨rfl, rfl⟩ ⟨Nat.le_of_ble_eq_true rfl, Nat.le_of_ble_eq_true rfl⟩ ⟨Nat.le_refl _, Nat.le_refl _⟩ rfl rfl (Nat.le_of_ble_eq_true rfl) dX9_count_150 ?_
      exact z_iret S (⟨Option.some.inj he, rfl⟩) dX9_count_153
    rcases z_sw he with ⟨hk11, he⟩ | ⟨hk11, he⟩
    · refine z_tabIn (tgt := 154) S dX9_count_1 hk11 (by decide) (by decide) rfl (by decide) ?_
      refine z_aload_n S dX9_count_154 rfl 0 rfl ?_
      refine z_getI S fo_RX9_129 rfl ok_1 dX9_count_155 ?_
      exact z_iret S (⟨Option.some.inj he, rfl⟩) dX9_count_158
    refine z_tabOut (tgt := 159) S dX9_count_1 (sw_out12 hk0 hk1 hk2 hk3 hk4 hk5 hk6 hk7 hk8 hk9 hk10 hk11) (by decide) ?_
    refine z_iconst (v := (-1)) S dX9_count_159 (by decide) ?_
    exact z_iret S (⟨Option.some.inj he, rfl⟩) dX9_count_160
set_option maxRecDepth 100000 in
set_option maxHeartbeats 4000000 in
theorem p_X9_passDays_L5 {X : Cx} {p : Program} {l : Launch} {e : Env} {s : State} {m : MethodId} {args : Array Value} {below : List Frame} {meth : Method} {c : Code} (S : SB X 0 p s m args meth c cX9_passDays 5 (some .int) RX9) {M : Mm} {N : Mm} {r : Int32} {v1 : Nat} {v2 : Int32} {v3 : Int32} {v4 : Int32} {x : (Mm × Int32 × Int32) ⊕ (Mm × Int32)} (h_v1 : OK 0 v1 4) (he : f_X9_passDays_L5 M v1 v2 v3 v4 = some x) (hc : ∀ b, x = .inl b → Z X 0 p l e rm_X9_passDays s m args below meth c 0 0 (MQ below (QI X 0 r N s.heap.size) args s 0 0 (AA X 0 s.heap.size)) 5 b.1 5 [(0, .ref (X.2.2 1)), (1, .ref (X.2.2 v1)), (2, .int v2), (3, .int b.2.1), (4, .int b.2.2)] []) (hx : ∀ b, x = .inr b → Z X 0 p l e rm_X9_passDays s m args below meth c 0 0 (MQ below (QI X 0 r N s.heap.size) args s 0 0 (AA X 0 s.heap.size)) 5 b.1 33 [(3, .int b.2)] []) : Z X 0 p l e rm_X9_passDays s m args below meth c 0 0 (MQ below (QI X 0 r N s.heap.size) args s 0 0 (AA X 0 s.heap.size)) 5 M 5 [(0, .ref (X.2.2 1)), (1, .ref (X.2.2 v1)), (2, .int v2), (3, .int v3), (4, .int v4)] [] := by
  unfold f_X9_passDays_L5 at he
  refine z_iload S dX9_passDays_5 4 rfl ?_
  refine z_iload_n S dX9_passDays_7 rfl 2 rfl ?_
  refine z_icmp_ge (tgt := 33) S he dX9_passDays_8 (by decide) (fun he => ?_) (fun he => ?_)
  · refine z_lv (ks := [3]) rfl ?_
    exact hx _ (Option.some.inj he).symm
  · refine z_iload_n S dX9_passDays_11 rfl 3 rfl ?_
    refine z_aload_n S dX9_passDays_12 rfl 0 rfl ?_
    refine z_getF (j := 82) S fo_RX9_50 81 rfl rfl ok_1 dX9_passDays_13 ?_
    refine z_aload_n S dX9_passDays_16 rfl 1 rfl ?_
    refine z_aload_n S dX9_passDays_17 rfl 0 rfl ?_
    refine z_getGb (k2 := 2) S fo_RX9_30 rfl ok_1 (by decide) he dX9_passDays_18 (fun q1 hq1 he => ?_)
    refine z_iconst (v := 1) S dX9_passDays_21 (by decide) ?_
    obtain ⟨⟨r2, M3⟩, h9, he⟩ := bnd he
    dsimp only at he
    refine z_cVI (As := [.ref (X.2.2 v1), .ref (X.2.2 q1), .int 1]) S cv_RX9_242 (K_X6_passDay h_v1 (okk2 hq1) h9) ok_82 (by decide) (q := (RX6, TX6, 4)) rfl rfl ⟨rfl, rfl⟩ ⟨Nat.le_of_ble_eq_true rfl, Nat.le_of_ble_eq_true rfl⟩ ⟨Nat.le_refl _, Nat.le_refl _⟩ rfl rfl (Nat.le_of_ble_eq_true rfl) dX9_passDays_22 ?_
    refine z_iadd S dX9_passDays_25 ?_
    refine z_istore_n (lv' := [(0, .ref (X.2.2 1)), (1, .ref (X.2.2 v1)), (2, .int v2), (3, .int (v3 + r2)), (4, .int v4)]) S [1, 2, 3, 0, 4] dX9_passDays_26 rfl (by decide) rfl ?_
    refine z_iinc (v := (v4 + 1)) (lv' := [(0, .ref (X.2.2 1)), (1, .ref (X.2.2 v1)), (2, .int v2), (3, .int (v3 + r2)), (4, .int (v4 + 1))]) S [1, 2, 3, 4, 0] 4 dX9_passDays_27 rfl (by rfl) (by decide) rfl ?_
    refine z_goto (tgt := 5) S dX9_passDays_30 (by decide) ?_
    refine z_lv (ks := [0, 1, 2, 3, 4]) rfl ?_
    exact hc _ (Option.some.inj he).symm
set_option maxRecDepth 100000 in
set_option maxHeartbeats 4000000 in
theorem K_X9_passDays {X : Cx} {l : Launch} {M : Mm} {a1 : Nat} {a2 : Int32} {r : Int32} {N : Mm} (h_a1 : OK 0 a1 4) (he : f_X9_passDays M a1 a2 = some (r, N)) : KI X 0 l yX9_passDays (wz yX9_passDays cX9_passDays 5 (some .int)) rm_X9_passDays [.ref (X.2.2 1), .ref (X.2.2 a1), .int a2] M r N := by
  intro sz
  refine K_of (Qc := (fun sz => QI X 0 r N sz)) (own := RX9) (lv0 := [(0, .ref (X.2.2 1)), (1, .ref (X.2.2 a1)), (2, .int a2)]) (by decide +kernel) rfl (Nat.le_of_ble_eq_true rfl) rfl (fun p e s m args below meth c S => ?_) sz
  · unfold f_X9_passDays at he
    refine z_iconst (v := 0) S dX9_passDays_0 (by decide) ?_
    refine z_istore_n (lv' := [(0, .ref (X.2.2 1)), (1, .ref (X.2.2 a1)), (2, .int a2), (3, .int 0)]) S [1, 2, 3, 0] dX9_passDays_1 rfl (by decide) rfl ?_
    refine z_iconst (v := 0) S dX9_passDays_2 (by decide) ?_
    refine z_istore (lv' := [(0, .ref (X.2.2 1)), (1, .ref (X.2.2 a1)), (2, .int a2), (3, .int 0), (4, .int 0)]) S [1, 2, 3, 4, 0] dX9_passDays_3 (by decide) rfl ?_
    obtain ⟨e_4, hl, he⟩ := bnd he
    have hX : Z X 0 p l e rm_X9_passDays s m args below meth c 0 0 (MQ below (QI X 0 r N s.heap.size) args s 0 0 (AA X 0 s.heap.size)) 5 e_4.1 33 [(3, .int e_4.2)] [] := by
      refine z_iload_n S dX9_passDays_33 rfl 0 rfl ?_
      exact z_iret S (Prod.mk.inj (Option.some.inj he)) dX9_passDays_34
    have hZ9 := loopZ (f := (fun a_4 => f_X9_passDays_L5 a_4.1 a1 a2 a_4.2.1 a_4.2.2)) (Zh := (fun a_4 => Z X 0 p l e rm_X9_passDays s m args below meth c 0 0 (MQ below (QI X 0 r N s.heap.size) args s 0 0 (AA X 0 s.heap.size)) 5 a_4.1 5 [(0, .ref (X.2.2 1)), (1, .ref (X.2.2 a1)), (2, .int a2), (3, .int a_4.2.1), (4, .int a_4.2.2)] [])) (fun a_4 x hb hc hr => p_X9_passDays_L5 S h_a1 hb hc (fun b hxe => by rw [hr b hxe]; exact hX)) FU (M, 0, 0) hl
    exact hZ9
set_option maxRecDepth 100000 in
set_option maxHeartbeats 4000000 in
theorem p_X9_days_J11 {X : Cx} {p : Program} {l : Launch} {e : Env} {s : State} {m : MethodId} {args : Array Value} {below : List Frame} {meth : Method} {c : Code} (hl0 : l.stackTraces = false) (T0 : ∀ x ∈ c.exceptionTable.toList, False) (S : SB X 0 p s m args meth c cX9_days 2 (some .int) RX9) {M : Mm} {rx : ((Int32 × Mm) ⊕ (Nat × Mm))}  (he : f_X9_days_J11 M  = some rx) : Z X 0 p l e rm_X9_days s m args below meth c 0 0 (vx_MQ below (QXI X 0 rx s.heap.size) (XCX X 0 rx s.heap.size) args s 1 6 (AA X 0 s.heap.size)) 2 M 11 [] [] := by
  unfold f_X9_days_J11 at he
  exact z_throw S hl0 T0 tx_RX9_114_237_118 (k := 1) rfl (Option.some.inj he) dX9_days_11 dX9_days_14 dX9_days_15 dX9_days_17 dX9_days_20 (Nat.le_of_ble_eq_true rfl) (Nat.le_of_ble_eq_true rfl) (Nat.le_of_ble_eq_true rfl) (Nat.le_of_ble_eq_true rfl) (by decide) (by decide)
set_option maxRecDepth 100000 in
set_option maxHeartbeats 4000000 in
theorem K_X9_days {X : Cx} {l : Launch} (hl0 : l.stackTraces = false) {M : Mm} {a1 : Int32} {rx : ((Int32 × Mm) ⊕ (Nat × Mm))}  (he : f_X9_days M a1 = some rx) : KXI X 0 l yX9_days (wz yX9_days cX9_days 2 (some .int)) rm_X9_days 1 6 [.ref (X.2.2 1), .int a1] M rx := by
  intro sz
  refine KX_of (Qc := fun sz => QXI X 0 rx sz) (XC := fun sz => XCX X 0 rx sz) (own := RX9) (lv0 := [(0, .ref (X.2.2 1)), (1, .int a1)]) (by decide +kernel) rfl (Nat.le_of_ble_eq_true rfl) rfl (fun p e s m args below meth c S T0 => ?_) sz
  · unfold f_X9_days at he
    refine z_iload_n S dX9_days_0 rfl 1 rfl ?_
    refine z_iconst (v := 1) S dX9_days_1 (by decide) ?_
    refine z_icmp_lt (tgt := 11) S he dX9_days_2 (by decide) (fun he => ?_) (fun he => ?_)
    · refine z_lv (ks := []) rfl ?_
      exact p_X9_days_J11 hl0 T0 S  he
    · refine z_iload_n S dX9_days_5 rfl 1 rfl ?_
      refine z_bipush (v := 50) S dX9_days_6 (by decide) ?_
      refine z_icmp_le (tgt := 21) S he dX9_days_8 (by decide) (fun he => ?_) (fun he => ?_)
      · refine z_aload_n S dX9_days_21 rfl 0 rfl ?_
        obtain ⟨M1, h9, he⟩ := bnd he
        refine z_cVV (As := []) S cv_RX9_209 (K_X9_remember  h9) ok_1 (by decide) (q := (RX9, TX9, 17)) rfl rfl ⟨rfl, rfl⟩ ⟨Nat.le_of_ble_eq_true rfl, Nat.le_of_ble_eq_true rfl⟩ ⟨Nat.le_of_ble_eq_true rfl, Nat.le_of_ble_eq_true rfl⟩ rfl rfl (Nat.le_of_ble_eq_true rfl) dX9_days_22 ?_
        refine z_aload_n S dX9_days_25 rfl 0 rfl ?_
        refine z_aload_n S dX9_days_26 rfl 0 rfl ?_
        refine z_getGb (k2 := 4) S fo_RX9_20 rfl ok_1 (by decide) he dX9_days_27 (fun q2 hq2 he => ?_)
        refine z_iload_n S dX9_days_30 rfl 1 rfl ?_
        obtain ⟨⟨r3, M4⟩, h9, he⟩ := bnd he
        dsimp only at he
        refine z_cVI (As := [.ref (X.2.2 q2), .int a1]) S cv_RX9_239 (K_X9_passDays (okk4 hq2) h9) ok_1 (by decide) (q := (RX9, TX9, 17)) rfl rfl ⟨rfl, rfl⟩ ⟨Nat.le_of_ble_eq_true rfl, Nat.le_of_ble_eq_true rfl⟩ ⟨Nat.le_of_ble_eq_true rfl, Nat.le_of_ble_eq_true rfl⟩ rfl rfl (Nat.le_of_ble_eq_true rfl) dX9_days_31 ?_
        exact z_xiret S (Option.some.inj he) (by decide) (by decide) dX9_days_34
      · refine z_lv (ks := []) rfl ?_
        exact p_X9_days_J11 hl0 T0 S  he
set_option maxRecDepth 100000 in
set_option maxHeartbeats 4000000 in
theorem p_X9_dearest_J10 {X : Cx} {p : Program} {l : Launch} {e : Env} {s : State} {m : MethodId} {args : Array Value} {below : List Frame} {meth : Method} {c : Code} (hl0 : l.stackTraces = false) (T0 : ∀ x ∈ c.exceptionTable.toList, False) (S : SB X 0 p s m args meth c cX9_dearest 2 (some .int) RX9) {M : Mm} {rx : ((Int32 × Mm) ⊕ (Nat × Mm))} {v1 : Int32}  (he : f_X9_dearest_J10 M v1 = some rx) : Z X 0 p l e rm_X9_dearest s m args below meth c 1 6 (vx_MQ below (QXI X 0 rx s.heap.size) (XCX X 0 rx s.heap.size) args s 1 6 (AA X 0 s.heap.size)) 2 M 10 [(0, .ref (X.2.2 1)), (1, .int v1)] [] := by
  unfold f_X9_dearest_J10 at he
  refine z_aload_n S dX9_dearest_10 rfl 0 rfl ?_
  refine z_getF (j := 82) S fo_RX9_50 81 rfl rfl ok_1 dX9_dearest_11 ?_
  refine z_aload_n S dX9_dearest_14 rfl 0 rfl ?_
  refine z_getGb (k2 := 4) S fo_RX9_20 rfl ok_1 (by decide) he dX9_dearest_15 (fun q1 hq1 he => ?_)
  refine z_aload_n S dX9_dearest_18 rfl 0 rfl ?_
  refine z_getGb (k2 := 2) S fo_RX9_30 rfl ok_1 (by decide) he dX9_dearest_19 (fun q2 hq2 he => ?_)
  obtain ⟨M3, h9, he⟩ := bnd he
  refine z_cVV (As := [.ref (X.2.2 q1), .ref (X.2.2 q2)]) S cv_RX9_198 (K_X6_weigh (okk4 hq1) (okk2 hq2) h9) ok_82 (by decide) (q := (RX6, TX6, 4)) rfl rfl ⟨rfl, rfl⟩ ⟨Nat.le_of_ble_eq_true rfl, Nat.le_of_ble_eq_true rfl⟩ ⟨Nat.le_of_ble_eq_true rfl, Nat.le_of_ble_eq_true rfl⟩ rfl rfl (Nat.le_of_ble_eq_true rfl) dX9_dearest_22 ?_
  refine z_aload_n S dX9_dearest_25 rfl 0 rfl ?_
  refine z_getF (j := 90) S fo_RX9_64 89 rfl rfl ok_1 dX9_dearest_26 ?_
  refine z_aload_n S dX9_dearest_29 rfl 0 rfl ?_
  refine z_getGb (k2 := 4) S fo_RX9_20 rfl ok_1 (by decide) he dX9_dearest_30 (fun q4 hq4 he => ?_)
  refine z_aload_n S dX9_dearest_33 rfl 0 rfl ?_
  refine z_getF (j := 82) S fo_RX9_50 81 rfl rfl ok_1 dX9_dearest_34 ?_
  obtain ⟨M5, h9, he⟩ := bnd he
  refine z_cVV (As := [.ref (X.2.2 q4), .ref (X.2.2 82)]) S cv_RX9_258 (K_X0_find (okk4 hq4) h9) ok_90 (by decide) (q := (RX0, TX0, 8)) rfl rfl ⟨rfl, rfl⟩ ⟨Nat.le_of_ble_eq_true rfl, Nat.le_of_ble_eq_true rfl⟩ ⟨Nat.le_of_ble_eq_true rfl, Nat.le_of_ble_eq_true rfl⟩ rfl rfl (Nat.le_of_ble_eq_true rfl) dX9_dearest_37 ?_
  refine z_iload_n S dX9_dearest_40 rfl 1 rfl ?_
  refine z_iconst (v := (-1)) S dX9_dearest_41 (by decide) ?_
  refine z_icmp_ne (tgt := 59) S he dX9_dearest_42 (by decide) (fun he => ?_) (fun he => ?_)
  · refine z_aload_n S dX9_dearest_59 rfl 0 rfl ?_
    refine z_getF (j := 90) S fo_RX9_64 89 rfl rfl ok_1 dX9_dearest_60 ?_
    refine z_getF (j := 92) S fo_RX9_266 2 rfl rfl ok_90 dX9_dearest_63 ?_
    refine z_iload_n S dX9_dearest_66 rfl 1 rfl ?_
    refine z_cSI (As := [.ref (X.2.2 92), .int v1]) S cs_RX9_158 (Kt_X9_at ok_92 rfl) ⟨rfl, rfl⟩ ⟨Nat.le_of_ble_eq_true rfl, Nat.le_of_ble_eq_true rfl⟩ ⟨Nat.le_of_ble_eq_true rfl, Nat.le_of_ble_eq_true rfl⟩ rfl rfl (Nat.le_of_ble_eq_true rfl) dX9_dearest_67 ?_
    exact z_xiret S (Option.some.inj he) (by decide) (by decide) dX9_dearest_70
  · refine z_aload_n S dX9_dearest_45 rfl 0 rfl ?_
    refine z_getF (j := 90) S fo_RX9_64 89 rfl rfl ok_1 dX9_dearest_46 ?_
    refine z_aload_n S dX9_dearest_49 rfl 0 rfl ?_
    refine z_getF (j := 82) S fo_RX9_50 81 rfl rfl ok_1 dX9_dearest_50 ?_
    obtain ⟨r6, h9, he⟩ := bnd he
    refine z_cVI (As := [.ref (X.2.2 82)]) S cv_RX9_262 (K_X0_sum  h9) ok_90 (by decide) (q := (RX0, TX0, 8)) rfl rfl ⟨rfl, rfl⟩ ⟨Nat.le_of_ble_eq_true rfl, Nat.le_of_ble_eq_true rfl⟩ ⟨Nat.le_of_ble_eq_true rfl, Nat.le_of_ble_eq_true rfl⟩ rfl rfl (Nat.le_of_ble_eq_true rfl) dX9_dearest_53 ?_
    refine z_goto (tgt := 70) S dX9_dearest_56 (by decide) ?_
    exact z_xiret S (Option.some.inj he) (by decide) (by decide) dX9_dearest_70
set_option maxRecDepth 100000 in
set_option maxHeartbeats 4000000 in
theorem K_X9_dearest {X : Cx} {l : Launch} (hl0 : l.stackTraces = false) {M : Mm} {a1 : Int32} {rx : ((Int32 × Mm) ⊕ (Nat × Mm))}  (he : f_X9_dearest M a1 = some rx) : KXI X 0 l yX9_dearest (wz yX9_dearest cX9_dearest 2 (some .int)) rm_X9_dearest 1 6 [.ref (X.2.2 1), .int a1] M rx := by
  intro sz
  refine KX_of (Qc := fun sz => QXI X 0 rx sz) (XC := fun sz => XCX X 0 rx sz) (own := RX9) (lv0 := [(0, .ref (X.2.2 1)), (1, .int a1)]) (by decide +kernel) rfl (Nat.le_of_ble_eq_true rfl) rfl (fun p e s m args below meth c S T0 => ?_) sz
  · unfold f_X9_dearest at he
    refine z_iload_n S dX9_dearest_0 rfl 1 rfl ?_
    refine z_iconst (v := (-1)) S dX9_dearest_1 (by decide) ?_
    refine z_icmp_eq (tgt := 10) S he dX9_dearest_2 (by decide) (fun he => ?_) (fun he => ?_)
    · refine z_widen (k := 1) (j := 6) (by decide) (by decide) ?_
      exact p_X9_dearest_J10 hl0 T0 S  he
    · refine z_aload_n S dX9_dearest_5 rfl 0 rfl ?_
      refine z_iload_n S dX9_dearest_6 rfl 1 rfl ?_
      obtain ⟨r9, h9, hr1, hr2⟩ := bndS he
      refine z_xVV (As := [.int a1]) S cv_RX9_169 (K_X9_needVisitor hl0  h9) ok_1 (by decide) (q := (RX9, TX9, 17)) rfl rfl ⟨rfl, rfl⟩ ⟨Nat.le_of_ble_eq_true rfl, Nat.le_of_ble_eq_true rfl⟩ ⟨Nat.le_of_ble_eq_true rfl, Nat.le_of_ble_eq_true rfl⟩ rfl rfl (Nat.le_of_ble_eq_true rfl) dX9_dearest_7 T0 (by decide) (by decide) (fun q hq => Option.some.inj (hr2 q hq)) (fun e_6 hE => ?_)
      have he := hr1 _ hE
      exact p_X9_dearest_J10 hl0 T0 S  he
set_option maxRecDepth 100000 in
set_option maxHeartbeats 4000000 in
theorem K_X9_end {X : Cx} {l : Launch} {M : Mm} {a1 : Int32} {r : Bool} {N : Mm}  (he : f_X9_end M a1 = (r, N)) : KI X 0 l yX9_end (wz yX9_end cX9_end 2 (some .boolean)) rm_X9_end [.ref (X.2.2 1), .int a1] M (bI r) N := by
  intro sz
  refine K_of (Qc := (fun sz => QI X 0 (bI r) N sz)) (own := RX9) (lv0 := [(0, .ref (X.2.2 1)), (1, .int a1)]) (by decide +kernel) rfl (Nat.le_of_ble_eq_true rfl) rfl (fun p e s m args below meth c S => ?_) sz
  · unfold f_X9_end at he
    refine z_iload_n S dX9_end_0 rfl 1 rfl ?_
    refine z_if_lt (tgt := 12) S he dX9_end_1 (by decide) (fun he => ?_) (fun he => ?_)
    · refine z_iconst (v := 0) S dX9_end_12 (by decide) ?_
      exact z_zret0 S (Prod.mk.inj (he)) dX9_end_13
    · refine z_iload_n S dX9_end_4 rfl 1 rfl ?_
      refine z_aload_n S dX9_end_5 rfl 0 rfl ?_
      refine z_getI S fo_RX9_82 rfl ok_1 dX9_end_6 ?_
      refine z_icmp_le (tgt := 14) S he dX9_end_9 (by decide) (fun he => ?_) (fun he => ?_)
      · refine z_aload_n S dX9_end_14 rfl 0 rfl ?_
        refine z_iload_n S dX9_end_15 rfl 1 rfl ?_
        refine z_putI S fo_RX9_82p rfl ok_1 rfl rfl dX9_end_16 ?_
        refine z_iconst (v := 1) S dX9_end_19 (by decide) ?_
        exact z_zret1 S (Prod.mk.inj (he)) dX9_end_20
      · refine z_iconst (v := 0) S dX9_end_12 (by decide) ?_
        exact z_zret0 S (Prod.mk.inj (he)) dX9_end_13
set_option maxRecDepth 100000 in
set_option maxHeartbeats 4000000 in
theorem K_X9_fault {X : Cx} {l : Launch} {M : Mm} {r : Int32}  (he : f_X9_fault M  = r) : KI X 0 l yX9_fault (wz yX9_fault cX9_fault 1 (some .int)) rm_X9_fault [.ref (X.2.2 1)] M r M := by
  intro sz
  refine K_of (Qc := (fun sz => QI X 0 r M sz)) (own := RX9) (lv0 := [(0, .ref (X.2.2 1))]) (by decide +kernel) rfl (Nat.le_of_ble_eq_true rfl) rfl (fun p e s m args below meth c S => ?_) sz
  · unfold f_X9_fault at he
    refine z_aload_n S dX9_fault_0 rfl 0 rfl ?_
    refine z_getI S fo_RX9_13 rfl ok_1 dX9_fault_1 ?_
    exact z_iret S (⟨he, rfl⟩) dX9_fault_4
