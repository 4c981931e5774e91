set_option maxRecDepth 100000 in
set_option maxHeartbeats 4000000 in
theorem K_X4_setVisitor {X : Cx} {l : Launch} {M : Mm} {a0 : Nat} {a1 : Int32} {a2 : Int32} {a3 : Int32} {N : Mm} (h_a0 : OK 0 a0 4) (he : f_X4_setVisitor M a0 a1 a2 a3 = N) : KV X 0 l yX4_setVisitor (wz yX4_setVisitor cX4_setVisitor 4 none) rm_X4_setVisitor [.ref (X.2.2 a0), .int a1, .int a2, .int a3] M N := by
  intro sz
  refine K_of (Qc := (fun sz => QV X 0 N sz)) (own := RX4) (lv0 := [(0, .ref (X.2.2 a0)), (1, .int a1), (2, .int a2), (3, .int a3)]) (by decide +kernel) rfl (Nat.le_of_ble_eq_true rfl) rfl (fun p e s m args below meth c S => ?_) sz
  · unfold f_X4_setVisitor at he
    refine z_aload_n S dX4_setVisitor_0 rfl 0 rfl ?_
    refine z_getF (j := (a0 + 2)) S fo_RX4_15 2 rfl rfl h_a0 dX4_setVisitor_1 ?_
    refine z_iload_n S dX4_setVisitor_4 rfl 1 rfl ?_
    refine z_iconst (v := 5) S dX4_setVisitor_5 (by decide) ?_
    refine z_imul S dX4_setVisitor_6 ?_
    refine z_iload_n S dX4_setVisitor_7 rfl 2 rfl ?_
    refine z_iadd S dX4_setVisitor_8 ?_
    refine z_iload_n S dX4_setVisitor_9 rfl 3 rfl ?_
    refine z_cNV (As := [.ref (X.2.2 (a0 + 2)), .int ((a1 * 5) + a2), .int a3]) S cn_RX4_53 (Kt_X9_put (okf4_2 h_a0).1 rfl) ⟨rfl, rfl⟩ ⟨Nat.le_of_ble_eq_true rfl, Nat.le_of_ble_eq_true rfl⟩ ⟨Nat.le_refl _, Nat.le_refl _⟩ rfl rfl (Nat.le_of_ble_eq_true rfl) dX4_setVisitor_10 ?_
    exact z_vret S (he) dX4_setVisitor_13
set_option maxRecDepth 100000 in
set_option maxHeartbeats 4000000 in
theorem K_X7_marksHere {X : Cx} {l : Launch} {M : Mm} {a0 : Nat} {r : Int32} (h_a0 : OK 0 a0 7) (he : f_X7_marksHere M a0 = some r) : KI X 0 l yX7_marksHere (wz yX7_marksHere cX7_marksHere 1 (some .int)) rm_X7_marksHere [.ref (X.2.2 a0)] M r M := by
  intro sz
  refine K_of (Qc := (fun sz => QI X 0 r M sz)) (own := RX7) (lv0 := [(0, .ref (X.2.2 a0))]) (by decide +kernel) rfl (Nat.le_of_ble_eq_true rfl) rfl (fun p e s m args below meth c S => ?_) sz
  · unfold f_X7_marksHere at he
    refine z_aload_n S dX7_marksHere_0 rfl 0 rfl ?_
    refine z_getWd S fo_RX7_28 rfl h_a0 he dX7_marksHere_1 (fun q1 hq1 he => ?_)
    refine z_getW (i := 29) (j := 329) S (by decide) rfl rfl gw_RX7_100 dX7_marksHere_4 ?_
    refine z_acmp_ne (tgt := 17) S hq1 (isW_add (i := 29) (by decide)) he dX7_marksHere_7 (by decide) (fun he => ?_) (fun he => ?_)
    · refine z_iconst (v := (-1)) S dX7_marksHere_17 (by decide) ?_
      exact z_iret S (⟨Option.some.inj he, rfl⟩) dX7_marksHere_18
    · refine z_aload_n S dX7_marksHere_10 rfl 0 rfl ?_
      refine z_getI S fo_RX7_116 rfl h_a0 dX7_marksHere_11 ?_
      refine z_goto (tgt := 18) S dX7_marksHere_14 (by decide) ?_
      exact z_iret S (⟨Option.some.inj he, rfl⟩) dX7_marksHere_18
set_option maxRecDepth 100000 in
set_option maxHeartbeats 4000000 in
theorem K_X1_readMarks {X : Cx} {l : Launch} {M : Mm} {a1 : Nat} {a2 : Int32} {r : Bool} {N : Mm} (h_a1 : OK 0 a1 4) (he : f_X1_readMarks M a1 a2 = some (r, N)) : KI X 0 l yX1_readMarks (wz yX1_readMarks cX1_readMarks 4 (some .boolean)) rm_X1_readMarks [.ref (X.2.2 97), .ref (X.2.2 a1), .int a2] M (bI r) N := by
  intro sz
  refine K_of (Qc := (fun sz => QI X 0 (bI r) N sz)) (own := RX1) (lv0 := [(0, .ref (X.2.2 97)), (1, .ref (X.2.2 a1)), (2, .int a2)]) (by decide +kernel) rfl (Nat.le_of_ble_eq_true rfl) rfl (fun p e s m args below meth c S => ?_) sz
  · unfold f_X1_readMarks at he
    refine z_aload_n S dX1_readMarks_0 rfl 0 rfl ?_
    refine z_getF (j := 98) S fo_RX1_12 1 rfl rfl ok_97 dX1_readMarks_1 ?_
    obtain ⟨r1, h9, he⟩ := bnd he
    refine z_cVI (As := []) S cv_RX1_139 (K_X7_marksHere ok_98 h9) ok_98 (by decide) (q := (RX7, TX7, 9)) rfl rfl ⟨rfl, rfl⟩ ⟨Nat.le_of_ble_eq_true rfl, Nat.le_of_ble_eq_true rfl⟩ ⟨Nat.le_refl _, Nat.le_refl _⟩ rfl rfl (Nat.le_of_ble_eq_true rfl) dX1_readMarks_4 ?_
    refine z_istore_n (lv' := [(0, .ref (X.2.2 97)), (1, .ref (X.2.2 a1)), (2, .int a2), (3, .int r1)]) S [1, 2, 3, 0] dX1_readMarks_7 rfl (by decide) rfl ?_
    refine z_iload_n S dX1_readMarks_8 rfl 3 rfl ?_
    refine z_iconst (v := (-1)) S dX1_readMarks_9 (by decide) ?_
    refine z_icmp_ne (tgt := 21) S he dX1_readMarks_10 (by decide) (fun he => ?_) (fun he => ?_)
    · refine z_aload_n S dX1_readMarks_21 rfl 1 rfl ?_
      refine z_iload_n S dX1_readMarks_22 rfl 2 rfl ?_
      refine z_iconst (v := 4) S dX1_readMarks_23 (by decide) ?_
      refine z_iload_n S dX1_readMarks_24 rfl 3 rfl ?_
      obtain ⟨M2, h9, he⟩ := bnd he
      refine z_cVV (As := [.int a2, .int 4, .int r1]) S cv_RX1_117 (K_X4_setVisitor h_a1 (Option.some.inj h9)) h_a1 (by decide) (q := (RX4, TX4, 10)) rfl rfl ⟨rfl, rfl⟩ ⟨Nat.le_of_ble_eq_true rfl, Nat.le_of_ble_eq_true rfl⟩ ⟨Nat.le_refl _, Nat.le_refl _⟩ rfl rfl (Nat.le_of_ble_eq_true rfl) dX1_readMarks_25 ?_
      refine z_aload_n S dX1_readMarks_28 rfl 0 rfl ?_
      refine z_getF (j := 98) S fo_RX1_12 1 rfl rfl ok_97 dX1_readMarks_29 ?_
      obtain ⟨M3, h9, he⟩ := bnd he
      refine z_cVV (As := []) S cv_RX1_79 (K_X7_next ok_98 h9) ok_98 (by decide) (q := (RX7, TX7, 9)) rfl rfl ⟨rfl, rfl⟩ ⟨Nat.le_of_ble_eq_true rfl, Nat.le_of_ble_eq_true rfl⟩ ⟨Nat.le_refl _, Nat.le_refl _⟩ rfl rfl (Nat.le_of_ble_eq_true rfl) dX1_readMarks_32 ?_
      refine z_iconst (v := 1) S dX1_readMarks_35 (by decide) ?_
      exact z_zret1 S (Prod.mk.inj (Option.some.inj he)) dX1_readMarks_36
    · refine z_aload_n S dX1_readMarks_13 rfl 0 rfl ?_
      refine z_getF (j := 98) S fo_RX1_12 1 rfl rfl ok_97 dX1_readMarks_14 ?_
      obtain ⟨⟨r4, M5⟩, h9, he⟩ := bnd he
      dsimp only at he
      refine z_cVI (As := []) S cv_RX1_42 (K_X7_refuse ok_98 (Option.some.inj h9)) ok_98 (by decide) (q := (RX7, TX7, 9)) rfl rfl ⟨rfl, rfl⟩ ⟨Nat.le_of_ble_eq_true rfl, Nat.le_of_ble_eq_true rfl⟩ ⟨Nat.le_refl _, Nat.le_refl _⟩ rfl rfl (Nat.le_of_ble_eq_true rfl) dX1_readMarks_17 ?_
      exact z_zret S (Prod.mk.inj (Option.some.inj he)) dX1_readMarks_20
set_option maxRecDepth 100000 in
set_option maxHeartbeats 4000000 in
theorem p_X1_readVisitor_L24 {X : Cx} {p : Program} {l : Launch} {e : Env} {s : State} {m : MethodId} {args : Array Value} {below : List Frame} {meth : Method} {c : Code} (S : SB X 0 p s m args meth c cX1_readVisitor 4 (some .boolean) RX1) {M : Mm} {N : Mm} {r : Bool} {v1 : Nat} {v2 : Int32} {v3 : Int32} {x : (Mm × Int32) ⊕ ((Bool × Mm) ⊕ Mm)} (h_v1 : OK 0 v1 4) (he : f_X1_readVisitor_L24 M v1 v2 v3 = some x) (hc : ∀ b, x = .inl b → Z X 0 p l e rm_X1_readVisitor s m args below meth c 0 0 (MQ below (QI X 0 (bI r) N s.heap.size) args s 0 0 (AA X 0 s.heap.size)) 4 b.1 24 [(0, .ref (X.2.2 97)), (1, .ref (X.2.2 v1)), (2, .int v2), (3, .int b.2)] []) (hx : ∀ b, x = .inr (.inr b) → Z X 0 p l e rm_X1_readVisitor s m args below meth c 0 0 (MQ below (QI X 0 (bI r) N s.heap.size) args s 0 0 (AA X 0 s.heap.size)) 4 b 55 [(0, .ref (X.2.2 97)), (1, .ref (X.2.2 v1)), (2, .int v2)] []) (hr : ∀ v, x = .inr (.inl v) → v = (r, N)) : Z X 0 p l e rm_X1_readVisitor s m args below meth c 0 0 (MQ below (QI X 0 (bI r) N s.heap.size) args s 0 0 (AA X 0 s.heap.size)) 4 M 24 [(0, .ref (X.2.2 97)), (1, .ref (X.2.2 v1)), (2, .int v2), (3, .int v3)] [] := by
  unfold f_X1_readVisitor_L24 at he
  refine z_iload_n S dX1_readVisitor_24 rfl 3 rfl ?_
  refine z_iconst (v := 3) S dX1_readVisitor_25 (by decide) ?_
  refine z_icmp_gt (tgt := 55) S he dX1_readVisitor_26 (by decide) (fun he => ?_) (fun he => ?_)
  · refine z_lv (ks := [0, 1, 2]) rfl ?_
    exact hx _ (Option.some.inj he).symm
  · refine z_aload_n S dX1_readVisitor_29 rfl 0 rfl ?_
    refine z_iload_n S dX1_readVisitor_30 rfl 3 rfl ?_
    obtain ⟨⟨r3, M4⟩, h9, he⟩ := bnd he
    dsimp only at he
    refine z_cVI (As := [.int v3]) S cv_RX1_113 (K_X1_readColumn  h9) ok_97 (by decide) (q := (RX1, TX1, 2)) rfl rfl ⟨rfl, rfl⟩ ⟨Nat.le_of_ble_eq_true rfl, Nat.le_of_ble_eq_true rfl⟩ ⟨Nat.le_refl _, Nat.le_refl _⟩ rfl rfl (Nat.le_of_ble_eq_true rfl) dX1_readVisitor_31 ?_
    refine z_ifb_ne (tgt := 39) S he dX1_readVisitor_34 (by decide) (fun he => ?_) (fun he => ?_)
    · refine z_aload_n S dX1_readVisitor_39 rfl 1 rfl ?_
      refine z_iload_n S dX1_readVisitor_40 rfl 2 rfl ?_
      refine z_iload_n S dX1_readVisitor_41 rfl 3 rfl ?_
      refine z_aload_n S dX1_readVisitor_42 rfl 0 rfl ?_
      refine z_getI S fo_RX1_85 rfl ok_97 dX1_readVisitor_43 ?_
      obtain ⟨M5, h9, he⟩ := bnd he
      refine z_cVV (As := [.int v2, .int v3, .int (gI M4 97 1)]) S cv_RX1_117 (K_X4_setVisitor h_v1 (Option.some.inj h9)) h_v1 (by decide) (q := (RX4, TX4, 10)) rfl rfl ⟨rfl, rfl⟩ ⟨Nat.le_of_ble_eq_true rfl, Nat.le_of_ble_eq_true rfl⟩ ⟨Nat.le_refl _, Nat.le_refl _⟩ rfl rfl (Nat.le_of_ble_eq_true rfl) dX1_readVisitor_46 ?_
      refine z_iinc (v := (v3 + 1)) (lv' := [(0, .ref (X.2.2 97)), (1, .ref (X.2.2 v1)), (2, .int v2), (3, .int (v3 + 1))]) S [1, 2, 3, 0] 3 dX1_readVisitor_49 rfl (by rfl) (by decide) rfl ?_
      refine z_goto (tgt := 24) S dX1_readVisitor_52 (by decide) ?_
      refine z_lv (ks := [0, 1, 2, 3]) rfl ?_
      exact hc _ (Option.some.inj he).symm
    · refine z_iconst (v := 0) S dX1_readVisitor_37 (by decide) ?_
      exact z_zret0 S (Prod.mk.inj (hr _ (Option.some.inj he).symm)) dX1_readVisitor_38
set_option maxRecDepth 100000 in
set_option maxHeartbeats 4000000 in
theorem p_X1_readVisitor_J84 {X : Cx} {p : Program} {l : Launch} {e : Env} {s : State} {m : MethodId} {args : Array Value} {below : List Frame} {meth : Method} {c : Code} (S : SB X 0 p s m args meth c cX1_readVisitor 4 (some .boolean) RX1) {M : Mm} {N : Mm} {r : Bool}  (he : f_X1_readVisitor_J84 M  = some (r, N)) : Z X 0 p l e rm_X1_readVisitor s m args below meth c 0 0 (MQ below (QI X 0 (bI r) N s.heap.size) args s 0 0 (AA X 0 s.heap.size)) 4 M 84 [] [] := by
  unfold f_X1_readVisitor_J84 at he
  refine z_iconst (v := 1) S dX1_readVisitor_84 (by decide) ?_
  refine z_goto (tgt := 89) S dX1_readVisitor_85 (by decide) ?_
  exact z_zret1 S (Prod.mk.inj (Option.some.inj he)) dX1_readVisitor_89
set_option maxRecDepth 100000 in
set_option maxHeartbeats 4000000 in
theorem K_X1_readVisitor {X : Cx} {l : Launch} {M : Mm} {a1 : Nat} {r : Bool} {N : Mm} (h_a1 : OK 0 a1 4) (he : f_X1_readVisitor M a1 = some (r, N)) : KI X 0 l yX1_readVisitor (wz yX1_readVisitor cX1_readVisitor 4 (some .boolean)) rm_X1_readVisitor [.ref (X.2.2 97), .ref (X.2.2 a1)] M (bI r) N := by
  intro sz
  refine K_of (Qc := (fun sz => QI X 0 (bI r) N sz)) (own := RX1) (lv0 := [(0, .ref (X.2.2 97)), (1, .ref (X.2.2 a1))]) (by decide +kernel) rfl (Nat.le_of_ble_eq_true rfl) rfl (fun p e s m args below meth c S => ?_) sz
  · unfold f_X1_readVisitor at he
    refine z_aload_n S dX1_readVisitor_0 rfl 1 rfl ?_
    refine z_getI S fo_RX1_61 rfl h_a1 dX1_readVisitor_1 ?_
    refine z_istore_n (lv' := [(0, .ref (X.2.2 97)), (1, .ref (X.2.2 a1)), (2, .int (gI M a1 4))]) S [1, 2, 0] dX1_readVisitor_4 rfl (by decide) rfl ?_
    refine z_aload_n S dX1_readVisitor_5 rfl 1 rfl ?_
    refine z_dup S rfl dX1_readVisitor_6 ?_
    refine z_getI S fo_RX1_61 rfl h_a1 dX1_readVisitor_7 ?_
    refine z_iconst (v := 1) S dX1_readVisitor_10 (by decide) ?_
    refine z_iadd S dX1_readVisitor_11 ?_
    refine z_putIb S fo_RX1_61p rfl h_a1 rfl rfl he dX1_readVisitor_12 (fun M1 he => ?_)
    refine z_aload_n S dX1_readVisitor_15 rfl 0 rfl ?_
    refine z_getF (j := 98) S fo_RX1_12 1 rfl rfl ok_97 dX1_readVisitor_16 ?_
    obtain ⟨M2, h9, he⟩ := bnd he
    refine z_cVV (As := []) S cv_RX1_79 (K_X7_next ok_98 h9) ok_98 (by decide) (q := (RX7, TX7, 9)) rfl rfl ⟨rfl, rfl⟩ ⟨Nat.le_of_ble_eq_true rfl, Nat.le_of_ble_eq_true rfl⟩ ⟨Nat.le_refl _, Nat.le_refl _⟩ rfl rfl (Nat.le_of_ble_eq_true rfl) dX1_readVisitor_19 ?_
    refine z_iconst (v := 0) S dX1_readVisitor_22 (by decide) ?_
    refine z_istore_n (lv' := [(0, .ref (X.2.2 97)), (1, .ref (X.2.2 a1)), (2, .int (gI M a1 4)), (3, .int 0)]) S [1, 2, 3, 0] dX1_readVisitor_23 rfl (by decide) rfl ?_
    obtain ⟨r9, hl, hr1, hr2⟩ := bndS he
    have hX : ∀ e_6, r9 = .inr e_6 → Z X 0 p l e rm_X1_readVisitor s m args below meth c 0 0 (MQ below (QI X 0 (bI r) N s.heap.size) args s 0 0 (AA X 0 s.heap.size)) 4 e_6 55 [(0, .ref (X.2.2 97)), (1, .ref (X.2.2 a1)), (2, .int (gI M a1 4))] [] := by
      intro e_6 hre
      have he := hr2 e_6 hre
      refine z_aload_n S dX1_readVisitor_55 rfl 1 rfl ?_
      refine z_iload_n S dX1_readVisitor_56 rfl 2 rfl ?_
      refine z_iconst (v := 4) S dX1_readVisitor_57 (by decide) ?_
      refine z_iconst (v := 0) S dX1_readVisitor_58 (by decide) ?_
      obtain ⟨M7, h9, he⟩ := bnd he
      refine z_cVV (As := [.int (gI M a1 4), .int 4, .int 0]) S cv_RX1_117 (K_X4_setVisitor h_a1 (Option.some.inj h9)) h_a1 (by decide) (q := (RX4, TX4, 10)) rfl rfl ⟨rfl, rfl⟩ ⟨Nat.le_of_ble_eq_true rfl, Nat.le_of_ble_eq_true rfl⟩ ⟨Nat.le_refl _, Nat.le_refl _⟩ rfl rfl (Nat.le_of_ble_eq_true rfl) dX1_readVisitor_59 ?_
      refine z_aload_n S dX1_readVisitor_62 rfl 0 rfl ?_
      refine z_getF (j := 98) S fo_RX1_12 1 rfl rfl ok_97 dX1_readVisitor_63 ?_
      refine z_getW (i := 6) (j := 306) S (by decide) rfl rfl gw_RX1_120 dX1_readVisitor_66 ?_
      obtain ⟨⟨r8, M9⟩, h9, he⟩ := bnd he
      dsimp only at he
      refine z_cVI (As := [.ref (X.2.2 306)]) S cv_RX1_38 (K_X7_skip ok_98 (isW_add (i := 6) (by decide)) h9) ok_98 (by decide) (q := (RX7, TX7, 9)) rfl rfl ⟨rfl, rfl⟩ ⟨Nat.le_of_ble_eq_true rfl, Nat.le_of_ble_eq_true rfl⟩ ⟨Nat.le_refl _, Nat.le_refl _⟩ rfl rfl (Nat.le_of_ble_eq_true rfl) dX1_readVisitor_69 ?_
      refine z_ifb_eq (tgt := 84) S he dX1_readVisitor_72 (by decide) (fun he => ?_) (fun he => ?_)
      · refine z_lv (ks := []) rfl ?_
        exact p_X1_readVisitor_J84 S  he
      · refine z_aload_n S dX1_readVisitor_75 rfl 0 rfl ?_
        refine z_aload_n S dX1_readVisitor_76 rfl 1 rfl ?_
        refine z_iload_n S dX1_readVisitor_77 rfl 2 rfl ?_
        obtain ⟨⟨r10, M11⟩, h9, he⟩ := bnd he
        dsimp only at he
        refine z_cVI (As := [.ref (X.2.2 a1), .int (gI M a1 4)]) S cv_RX1_123 (K_X1_readMarks h_a1 h9) ok_97 (by decide) (q := (RX1, TX1, 2)) rfl rfl ⟨rfl, rfl⟩ ⟨Nat.le_of_ble_eq_true rfl, Nat.le_of_ble_eq_true rfl⟩ ⟨Nat.le_refl _, Nat.le_refl _⟩ rfl rfl (Nat.le_of_ble_eq_true rfl) dX1_readVisitor_78 ?_
        refine z_ifb_eq (tgt := 88) S he dX1_readVisitor_81 (by decide) (fun he => ?_) (fun he => ?_)
        · refine z_iconst (v := 0) S dX1_readVisitor_88 (by decide) ?_
          exact z_zret0 S (Prod.mk.inj (Option.some.inj he)) dX1_readVisitor_89
        · refine z_lv (ks := []) rfl ?_
          exact p_X1_readVisitor_J84 S  he
    have hZ9 := loopZ (f := (fun a_6 => f_X1_readVisitor_L24 a_6.1 a1 (gI M a1 4) a_6.2)) (Zh := (fun a_6 => Z X 0 p l e rm_X1_readVisitor s m args below meth c 0 0 (MQ below (QI X 0 (bI r) N s.heap.size) args s 0 0 (AA X 0 s.heap.size)) 4 a_6.1 24 [(0, .ref (X.2.2 97)), (1, .ref (X.2.2 a1)), (2, .int (gI M a1 4)), (3, .int a_6.2)] [])) (fun a_6 x hb hc hr9 => p_X1_readVisitor_L24 S h_a1 hb hc (fun b hxe => hX b (hr9 _ hxe).symm) (fun v hxv => Option.some.inj (hr1 v (hr9 _ hxv).symm))) FU (M2, 0) hl
    exact hZ9
set_option maxRecDepth 100000 in
set_option maxHeartbeats 4000000 in
theorem K_X1_readSpeed {X : Cx} {l : Launch} {M : Mm} {a1 : Nat} {r : Bool} {N : Mm} (h_a1 : OK 0 a1 4) (he : f_X1_readSpeed M a1 = some (r, N)) : KI X 0 l yX1_readSpeed (wz yX1_readSpeed cX1_readSpeed 3 (some .boolean)) rm_X1_readSpeed [.ref (X.2.2 97), .ref (X.2.2 a1)] M (bI r) N := by
  intro sz
  refine K_of (Qc := (fun sz => QI X 0 (bI r) N sz)) (own := RX1) (lv0 := [(0, .ref (X.2.2 97)), (1, .ref (X.2.2 a1))]) (by decide +kernel) rfl (Nat.le_of_ble_eq_true rfl) rfl (fun p e s m args below meth c S => ?_) sz
  · unfold f_X1_readSpeed at he
    refine z_aload_n S dX1_readSpeed_0 rfl 0 rfl ?_
    refine z_getW (i := 7) (j := 307) S (by decide) rfl rfl gw_RX1_67 dX1_readSpeed_1 ?_
    refine z_iconst (v := 1) S dX1_readSpeed_4 (by decide) ?_
    refine z_bipush (v := 9) S dX1_readSpeed_5 (by decide) ?_
    obtain ⟨⟨r1, M2⟩, h9, he⟩ := bnd he
    dsimp only at he
    refine z_cVI (As := [.ref (X.2.2 307), .int 1, .int 9]) S cv_RX1_91 (K_X1_readNamed (isW_add (i := 7) (by decide)) h9) ok_97 (by decide) (q := (RX1, TX1, 2)) rfl rfl ⟨rfl, rfl⟩ ⟨Nat.le_of_ble_eq_true rfl, Nat.le_of_ble_eq_true rfl⟩ ⟨Nat.le_refl _, Nat.le_refl _⟩ rfl rfl (Nat.le_of_ble_eq_true rfl) dX1_readSpeed_7 ?_
    refine z_istore_n (lv' := [(0, .ref (X.2.2 97)), (1, .ref (X.2.2 a1)), (2, .int (bI r1))]) S [1, 2, 0] dX1_readSpeed_10 rfl (by decide) rfl ?_
    refine z_iload_n S dX1_readSpeed_11 rfl 2 rfl ?_
    refine z_ifb_eq (tgt := 23) S he dX1_readSpeed_12 (by decide) (fun he => ?_) (fun he => ?_)
    · refine z_iload_n S dX1_readSpeed_23 rfl 2 rfl ?_
      exact z_zret S (Prod.mk.inj (Option.some.inj he)) dX1_readSpeed_24
    · refine z_aload_n S dX1_readSpeed_15 rfl 1 rfl ?_
      refine z_aload_n S dX1_readSpeed_16 rfl 0 rfl ?_
      refine z_getI S fo_RX1_85 rfl ok_97 dX1_readSpeed_17 ?_
      refine z_putIb S fo_RX1_143p rfl h_a1 rfl rfl he dX1_readSpeed_20 (fun M3 he => ?_)
      refine z_iload_n S dX1_readSpeed_23 rfl 2 rfl ?_
      exact z_zret S (Prod.mk.inj (Option.some.inj he)) dX1_readSpeed_24
set_option maxRecDepth 100000 in
set_option maxHeartbeats 4000000 in
theorem p_X1_readLine_J56 {X : Cx} {p : Program} {l : Launch} {e : Env} {s : State} {m : MethodId} {args : Array Value} {below : List Frame} {meth : Method} {c : Code} (S : SB X 0 p s m args meth c cX1_readLine 2 (some .boolean) RX1) {M : Mm} {N : Mm} {r : Bool} {v1 : Nat} (h_v1 : OK 0 v1 4) (he : f_X1_readLine_J56 M v1 = some (r, N)) : Z X 0 p l e rm_X1_readLine s m args below meth c 0 0 (MQ below (QI X 0 (bI r) N s.heap.size) args s 0 0 (AA X 0 s.heap.size)) 2 M 56 [(0, .ref (X.2.2 97)), (1, .ref (X.2.2 v1))] [] := by
  unfold f_X1_readLine_J56 at he
  refine z_aload_n S dX1_readLine_56 rfl 0 rfl ?_
  refine z_getF (j := 98) S fo_RX1_12 1 rfl rfl ok_97 dX1_readLine_57 ?_
  refine z_getWd S fo_RX1_22 rfl ok_98 he dX1_readLine_60 (fun q3 hq3 he => ?_)
  refine z_getW (i := 7) (j := 307) S (by decide) rfl rfl gw_RX1_67 dX1_readLine_63 ?_
  refine z_acmp_ne (tgt := 75) S hq3 (isW_add (i := 7) (by decide)) he dX1_readLine_66 (by decide) (fun he => ?_) (fun he => ?_)
  · refine z_aload_n S dX1_readLine_75 rfl 0 rfl ?_
    refine z_getF (j := 98) S fo_RX1_12 1 rfl rfl ok_97 dX1_readLine_76 ?_
    refine z_getWd S fo_RX1_22 rfl ok_98 he dX1_readLine_79 (fun q4 hq4 he => ?_)
    refine z_getW (i := 8) (j := 308) S (by decide) rfl rfl gw_RX1_73 dX1_readLine_82 ?_
    refine z_acmp_ne (tgt := 96) S hq4 (isW_add (i := 8) (by decide)) he dX1_readLine_85 (by decide) (fun he => ?_) (fun he => ?_)
    · refine z_aload_n S dX1_readLine_96 rfl 0 rfl ?_
      refine z_getF (j := 98) S fo_RX1_12 1 rfl rfl ok_97 dX1_readLine_97 ?_
      obtain ⟨⟨r5, M6⟩, h9, he⟩ := bnd he
      dsimp only at he
      refine z_cVI (As := []) S cv_RX1_42 (K_X7_refuse ok_98 (Option.some.inj h9)) ok_98 (by decide) (q := (RX7, TX7, 9)) rfl rfl ⟨rfl, rfl⟩ ⟨Nat.le_of_ble_eq_true rfl, Nat.le_of_ble_eq_true rfl⟩ ⟨Nat.le_refl _, Nat.le_refl _⟩ rfl rfl (Nat.le_of_ble_eq_true rfl) dX1_readLine_100 ?_
      exact z_zret S (Prod.mk.inj (Option.some.inj he)) dX1_readLine_103
    · refine z_aload_n S dX1_readLine_88 rfl 0 rfl ?_
      refine z_aload_n S dX1_readLine_89 rfl 1 rfl ?_
      obtain ⟨⟨r7, M8⟩, h9, he⟩ := bnd he
      dsimp only at he
      refine z_cVI (As := [.ref (X.2.2 v1)]) S cv_RX1_76 (K_X1_readCellar h_v1 h9) ok_97 (by decide) (q := (RX1, TX1, 2)) rfl rfl ⟨rfl, rfl⟩ ⟨Nat.le_of_ble_eq_true rfl, Nat.le_of_ble_eq_true rfl⟩ ⟨Nat.le_refl _, Nat.le_refl _⟩ rfl rfl (Nat.le_of_ble_eq_true rfl) dX1_readLine_90 ?_
      refine z_goto (tgt := 103) S dX1_readLine_93 (by decide) ?_
      exact z_zret S (Prod.mk.inj (Option.some.inj he)) dX1_readLine_103
  · refine z_aload_n S dX1_readLine_69 rfl 0 rfl ?_
    refine z_aload_n S dX1_readLine_70 rfl 1 rfl ?_
    obtain ⟨⟨r9, M10⟩, h9, he⟩ := bnd he
    dsimp only at he
    refine z_cVI (As := [.ref (X.2.2 v1)]) S cv_RX1_70 (K_X1_readSpeed h_v1 h9) ok_97 (by decide) (q := (RX1, TX1, 2)) rfl rfl ⟨rfl, rfl⟩ ⟨Nat.le_of_ble_eq_true rfl, Nat.le_of_ble_eq_true rfl⟩ ⟨Nat.le_refl _, Nat.le_refl _⟩ rfl rfl (Nat.le_of_ble_eq_true rfl) dX1_readLine_71 ?_
    exact z_zret S (Prod.mk.inj (Option.some.inj he)) dX1_readLine_74
set_option maxRecDepth 100000 in
set_option maxHeartbeats 4000000 in
theorem p_X1_readLine_J28 {X : Cx} {p : Program} {l : Launch} {e : Env} {s : State} {m : MethodId} {args : Array Value} {below : List Frame} {meth : Method} {c : Code} (S : SB X 0 p s m args meth c cX1_readLine 2 (some .boolean) RX1) {M : Mm} {N : Mm} {r : Bool} {v1 : Nat} (h_v1 : OK 0 v1 4) (he : f_X1_readLine_J28 M v1 = some (r, N)) : Z X 0 p l e rm_X1_readLine s m args below meth c 0 0 (MQ below (QI X 0 (bI r) N s.heap.size) args s 0 0 (AA X 0 s.heap.size)) 2 M 28 [(0, .ref (X.2.2 97)), (1, .ref (X.2.2 v1))] [] := by
  unfold f_X1_readLine_J28 at he
  refine z_aload_n S dX1_readLine_28 rfl 0 rfl ?_
  refine z_getF (j := 98) S fo_RX1_12 1 rfl rfl ok_97 dX1_readLine_29 ?_
  refine z_getWd S fo_RX1_22 rfl ok_98 he dX1_readLine_32 (fun q2 hq2 he => ?_)
  refine z_getW (i := 4) (j := 304) S (by decide) rfl rfl gw_RX1_58 dX1_readLine_35 ?_
  refine z_acmp_ne (tgt := 56) S hq2 (isW_add (i := 4) (by decide)) he dX1_readLine_38 (by decide) (fun he => ?_) (fun he => ?_)
  · exact p_X1_readLine_J56 S h_v1 he
  · refine z_aload_n S dX1_readLine_41 rfl 1 rfl ?_
    refine z_getI S fo_RX1_61 rfl h_v1 dX1_readLine_42 ?_
    refine z_bipush (v := 10) S dX1_readLine_45 (by decide) ?_
    refine z_icmp_ge (tgt := 56) S he dX1_readLine_47 (by decide) (fun he => ?_) (fun he => ?_)
    · exact p_X1_readLine_J56 S h_v1 he
    · refine z_aload_n S dX1_readLine_50 rfl 0 rfl ?_
      refine z_aload_n S dX1_readLine_51 rfl 1 rfl ?_
      obtain ⟨⟨r11, M12⟩, h9, he⟩ := bnd he
      dsimp only at he
      refine z_cVI (As := [.ref (X.2.2 v1)]) S cv_RX1_64 (K_X1_readVisitor h_v1 h9) ok_97 (by decide) (q := (RX1, TX1, 2)) rfl rfl ⟨rfl, rfl⟩ ⟨Nat.le_of_ble_eq_true rfl, Nat.le_of_ble_eq_true rfl⟩ ⟨Nat.le_refl _, Nat.le_refl _⟩ rfl rfl (Nat.le_of_ble_eq_true rfl) dX1_readLine_52 ?_
      exact z_zret S (Prod.mk.inj (Option.some.inj he)) dX1_readLine_55
set_option maxRecDepth 100000 in
set_option maxHeartbeats 4000000 in
theorem K_X1_readLine {X : Cx} {l : Launch} {M : Mm} {a1 : Nat} {r : Bool} {N : Mm} (h_a1 : OK 0 a1 4) (he : f_X1_readLine M a1 = some (r, N)) : KI X 0 l yX1_readLine (wz yX1_readLine cX1_readLine 2 (some .boolean)) rm_X1_readLine [.ref (X.2.2 97), .ref (X.2.2 a1)] M (bI r) N := by
  intro sz
  refine K_of (Qc := (fun sz => QI X 0 (bI r) N sz)) (own := RX1) (lv0 := [(0, .ref (X.2.2 97)), (1, .ref (X.2.2 a1))]) (by decide +kernel) rfl (Nat.le_of_ble_eq_true rfl) rfl (fun p e s m args below meth c S => ?_) sz
  · unfold f_X1_readLine at he
    refine z_aload_n S dX1_readLine_0 rfl 0 rfl ?_
    refine z_getF (j := 98) S fo_RX1_12 1 rfl rfl ok_97 dX1_readLine_1 ?_
    refine z_getWd S fo_RX1_22 rfl ok_98 he dX1_readLine_4 (fun q1 hq1 he => ?_)
    refine z_getW (i := 0) (j := 300) S (by decide) rfl rfl gw_RX1_46 dX1_readLine_7 ?_
    refine z_acmp_ne (tgt := 28) S hq1 (isW_add (i := 0) (by decide)) he dX1_readLine_10 (by decide) (fun he => ?_) (fun he => ?_)
    · exact p_X1_readLine_J28 S h_a1 he
    · refine z_aload_n S dX1_readLine_13 rfl 1 rfl ?_
      refine z_getI S fo_RX1_49 rfl h_a1 dX1_readLine_14 ?_
      refine z_bipush (v := 9) S dX1_readLine_17 (by decide) ?_
      refine z_icmp_ge (tgt := 28) S he dX1_readLine_19 (by decide) (fun he => ?_) (fun he => ?_)
      · exact p_X1_readLine_J28 S h_a1 he
      · refine z_aload_n S dX1_readLine_22 rfl 0 rfl ?_
        refine z_aload_n S dX1_readLine_23 rfl 1 rfl ?_
        obtain ⟨⟨r13, M14⟩, h9, he⟩ := bnd he
        dsimp only at he
        refine z_cVI (As := [.ref (X.2.2 a1)]) S cv_RX1_55 (K_X1_readThing h_a1 h9) ok_97 (by decide) (q := (RX1, TX1, 2)) rfl rfl ⟨rfl, rfl⟩ ⟨Nat.le_of_ble_eq_true rfl, Nat.le_of_ble_eq_true rfl⟩ ⟨Nat.le_refl _, Nat.le_refl _⟩ rfl rfl (Nat.le_of_ble_eq_true rfl) dX1_readLine_24 ?_
        exact z_zret S (Prod.mk.inj (Option.some.inj he)) dX1_readLine_27
set_option maxRecDepth 100000 in
set_option maxHeartbeats 4000000 in
theorem p_X1_readInto_L27 {X : Cx} {p : Program} {l : Launch} {e : Env} {s : State} {m : MethodId} {args : Array Value} {below : List Frame} {meth : Method} {c : Code} (S : SB X 0 p s m args meth c cX1_readInto 5 (some .boolean) RX1) {M : Mm} {N : Mm} {r : Bool} {v1 : Nat} {v4 : Int32} {x : (Mm × Int32) ⊕ ((Bool × Mm) ⊕ Mm)} (h_v1 : OK 0 v1 4) (he : f_X1_readInto_L27 M v1 v4 = some x) (hc : ∀ b, x = .inl b → Z X 0 p l e rm_X1_readInto s m args below meth c 0 0 (MQ below (QI X 0 (bI r) N s.heap.size) args s 0 0 (AA X 0 s.heap.size)) 5 b.1 27 [(0, .ref (X.2.2 97)), (1, .ref (X.2.2 v1)), (4, .int b.2)] []) (hx : ∀ b, x = .inr (.inr b) → Z X 0 p l e rm_X1_readInto s m args below meth c 0 0 (MQ below (QI X 0 (bI r) N s.heap.size) args s 0 0 (AA X 0 s.heap.size)) 5 b 86 [(0, .ref (X.2.2 97))] []) (hr : ∀ v, x = .inr (.inl v) → v = (r, N)) : Z X 0 p l e rm_X1_readInto s m args below meth c 0 0 (MQ below (QI X 0 (bI r) N s.heap.size) args s 0 0 (AA X 0 s.heap.size)) 5 M 27 [(0, .ref (X.2.2 97)), (1, .ref (X.2.2 v1)), (4, .int v4)] [] := by
  unfold f_X1_readInto_L27 at he
  refine z_iload S dX1_readInto_27 2 rfl ?_
  refine z_bipush (v := 14) S dX1_readInto_29 (by decide) ?_
  refine z_icmp_ge (tgt := 86) S he dX1_readInto_31 (by decide) (fun he => ?_) (fun he => ?_)
  · refine z_lv (ks := [0]) rfl ?_
    exact hx _ (Option.some.inj he).symm
  · refine z_aload_n S dX1_readInto_34 rfl 0 rfl ?_
    refine z_aload_n S dX1_readInto_35 rfl 1 rfl ?_
    obtain ⟨⟨r3, M4⟩, h9, he⟩ := bnd he
    dsimp only at he
    refine z_cVI (As := [.ref (X.2.2 v1)]) S cv_RX1_31 (K_X1_readLine h_v1 h9) ok_97 (by decide) (q := (RX1, TX1, 2)) rfl rfl ⟨rfl, rfl⟩ ⟨Nat.le_of_ble_eq_true rfl, Nat.le_of_ble_eq_true rfl⟩ ⟨Nat.le_refl _, Nat.le_refl _⟩ rfl rfl (Nat.le_of_ble_eq_true rfl) dX1_readInto_36 ?_
    refine z_ifb_ne (tgt := 44) S he dX1_readInto_39 (by decide) (fun he => ?_) (fun he => ?_)
    · refine z_aload_n S dX1_readInto_44 rfl 0 rfl ?_
      refine z_getF (j := 98) S fo_RX1_12 1 rfl rfl ok_97 dX1_readInto_45 ?_
      refine z_getWd S fo_RX1_22 rfl ok_98 he dX1_readInto_48 (fun q5 hq5 he => ?_)
      refine z_getW (i := 30) (j := 330) S (by decide) rfl rfl gw_RX1_26 dX1_readInto_51 ?_
      refine z_acmp_ne (tgt := 59) S hq5 (isW_add (i := 30) (by decide)) he dX1_readInto_54 (by decide) (fun he => ?_) (fun he => ?_)
      · refine z_aload_n S dX1_readInto_59 rfl 0 rfl ?_
        refine z_getF (j := 98) S fo_RX1_12 1 rfl rfl ok_97 dX1_readInto_60 ?_
        refine z_getW (i := 22) (j := 322) S (by decide) rfl rfl gw_RX1_35 dX1_readInto_63 ?_
        obtain ⟨⟨r6, M7⟩, h9, he⟩ := bnd he
        dsimp only at he
        refine z_cVI (As := [.ref (X.2.2 322)]) S cv_RX1_38 (K_X7_skip ok_98 (isW_add (i := 22) (by decide)) h9) ok_98 (by decide) (q := (RX7, TX7, 9)) rfl rfl ⟨rfl, rfl⟩ ⟨Nat.le_of_ble_eq_true rfl, Nat.le_of_ble_eq_true rfl⟩ ⟨Nat.le_refl _, Nat.le_refl _⟩ rfl rfl (Nat.le_of_ble_eq_true rfl) dX1_readInto_66 ?_
        refine z_ifb_ne (tgt := 80) S he dX1_readInto_69 (by decide) (fun he => ?_) (fun he => ?_)
        · refine z_iinc (v := (v4 + 1)) (lv' := [(0, .ref (X.2.2 97)), (1, .ref (X.2.2 v1)), (4, .int (v4 + 1))]) S [1, 2, 0] 2 dX1_readInto_80 rfl (by rfl) (by decide) rfl ?_
          refine z_goto (tgt := 27) S dX1_readInto_83 (by decide) ?_
          refine z_lv (ks := [0, 1, 2]) rfl ?_
          exact hc _ (Option.some.inj he).symm
        · refine z_aload_n S dX1_readInto_72 rfl 0 rfl ?_
          refine z_getF (j := 98) S fo_RX1_12 1 rfl rfl ok_97 dX1_readInto_73 ?_
          obtain ⟨⟨r8, M9⟩, h9, he⟩ := bnd he
          dsimp only at he
          refine z_cVI (As := []) S cv_RX1_42 (K_X7_refuse ok_98 (Option.some.inj h9)) ok_98 (by decide) (q := (RX7, TX7, 9)) rfl rfl ⟨rfl, rfl⟩ ⟨Nat.le_of_ble_eq_true rfl, Nat.le_of_ble_eq_true rfl⟩ ⟨Nat.le_refl _, Nat.le_refl _⟩ rfl rfl (Nat.le_of_ble_eq_true rfl) dX1_readInto_76 ?_
          exact z_zret S (Prod.mk.inj (hr _ (Option.some.inj he).symm)) dX1_readInto_79
      · refine z_iconst (v := 1) S dX1_readInto_57 (by decide) ?_
        exact z_zret1 S (Prod.mk.inj (hr _ (Option.some.inj he).symm)) dX1_readInto_58
    · refine z_iconst (v := 0) S dX1_readInto_42 (by decide) ?_
      exact z_zret0 S (Prod.mk.inj (hr _ (Option.some.inj he).symm)) dX1_readInto_43
set_option maxRecDepth 100000 in
set_option maxHeartbeats 4000000 in
theorem K_X1_readInto {X : Cx} {l : Launch} {M : Mm} {a1 : Nat} {a2 : Nat} {a3 : Int32} {r : Bool} {N : Mm} (h_a1 : OK 0 a1 4) (h_a2 : OK 0 a2 30) (he : f_X1_readInto M a1 a2 a3 = some (r, N)) : KI X 0 l yX1_readInto (wz yX1_readInto cX1_readInto 5 (some .boolean)) rm_X1_readInto [.ref (X.2.2 97), .ref (X.2.2 a1), .ref (X.2.2 a2), .int a3] M (bI r) N := by
  intro sz
  refine K_of (Qc := (fun sz => QI X 0 (bI r) N sz)) (own := RX1) (lv0 := [(0, .ref (X.2.2 97)), (1, .ref (X.2.2 a1)), (2, .ref (X.2.2 a2)), (3, .int a3)]) (by decide +kernel) rfl (Nat.le_of_ble_eq_true rfl) rfl (fun p e s m args below meth c S => ?_) sz
  · unfold f_X1_readInto at he
    refine z_aload_n S dX1_readInto_0 rfl 0 rfl ?_
    refine z_getF (j := 98) S fo_RX1_12 1 rfl rfl ok_97 dX1_readInto_1 ?_
    refine z_aload_n S dX1_readInto_4 rfl 2 rfl ?_
    refine z_iload_n S dX1_readInto_5 rfl 3 rfl ?_
    obtain ⟨M1, h9, he⟩ := bnd he
    refine z_cVV (As := [.ref (X.2.2 a2), .int a3]) S cv_RX1_18 (K_X7_open ok_98 h_a2 h9) ok_98 (by decide) (q := (RX7, TX7, 9)) rfl rfl ⟨rfl, rfl⟩ ⟨Nat.le_of_ble_eq_true rfl, Nat.le_of_ble_eq_true rfl⟩ ⟨Nat.le_refl _, Nat.le_refl _⟩ rfl rfl (Nat.le_of_ble_eq_true rfl) dX1_readInto_6 ?_
    refine z_aload_n S dX1_readInto_9 rfl 0 rfl ?_
    refine z_getF (j := 98) S fo_RX1_12 1 rfl rfl ok_97 dX1_readInto_10 ?_
    refine z_getWd S fo_RX1_22 rfl ok_98 he dX1_readInto_13 (fun q2 hq2 he => ?_)
    refine z_getW (i := 30) (j := 330) S (by decide) rfl rfl gw_RX1_26 dX1_readInto_16 ?_
    refine z_acmp_ne (tgt := 24) S hq2 (isW_add (i := 30) (by decide)) he dX1_readInto_19 (by decide) (fun he => ?_) (fun he => ?_)
    · refine z_iconst (v := 0) S dX1_readInto_24 (by decide) ?_
      refine z_istore (lv' := [(0, .ref (X.2.2 97)), (1, .ref (X.2.2 a1)), (4, .int 0)]) S [1, 2, 0] dX1_readInto_25 (by decide) rfl ?_
      obtain ⟨r9, hl, hr1, hr2⟩ := bndS he
      have hX : ∀ e_10, r9 = .inr e_10 → Z X 0 p l e rm_X1_readInto s m args below meth c 0 0 (MQ below (QI X 0 (bI r) N s.heap.size) args s 0 0 (AA X 0 s.heap.size)) 5 e_10 86 [(0, .ref (X.2.2 97))] [] := by
        intro e_10 hre
        have he := hr2 e_10 hre
        refine z_aload_n S dX1_readInto_86 rfl 0 rfl ?_
        refine z_getF (j := 98) S fo_RX1_12 1 rfl rfl ok_97 dX1_readInto_87 ?_
        obtain ⟨⟨r11, M12⟩, h9, he⟩ := bnd he
        dsimp only at he
        refine z_cVI (As := []) S cv_RX1_42 (K_X7_refuse ok_98 (Option.some.inj h9)) ok_98 (by decide) (q := (RX7, TX7, 9)) rfl rfl ⟨rfl, rfl⟩ ⟨Nat.le_of_ble_eq_true rfl, Nat.le_of_ble_eq_true rfl⟩ ⟨Nat.le_refl _, Nat.le_refl _⟩ rfl rfl (Nat.le_of_ble_eq_true rfl) dX1_readInto_90 ?_
        exact z_zret S (Prod.mk.inj (Option.some.inj he)) dX1_readInto_93
      have hZ9 := loopZ (f := (fun a_10 => f_X1_readInto_L27 a_10.1 a1 a_10.2)) (Zh := (fun a_10 => Z X 0 p l e rm_X1_readInto s m args below meth c 0 0 (MQ below (QI X 0 (bI r) N s.heap.size) args s 0 0 (AA X 0 s.heap.size)) 5 a_10.1 27 [(0, .ref (X.2.2 97)), (1, .ref (X.2.2 a1)), (4, .int a_10.2)] [])) (fun a_10 x hb hc hr9 => p_X1_readInto_L27 S h_a1 hb hc (fun b hxe => hX b (hr9 _ hxe).symm) (fun v hxv => Option.some.inj (hr1 v (hr9 _ hxv).symm))) FU (M1, 0) hl
      exact hZ9
    · refine z_iconst (v := 1) S dX1_readInto_22 (by decide) ?_
      exact z_zret1 S (Prod.mk.inj (Option.some.inj he)) dX1_readInto_23
set_option maxRecDepth 100000 in
set_option maxHeartbeats 4000000 in
theorem K_X2_addOperation {X : Cx} {l : Launch} {M : Mm} {a0 : Nat} {a1 : Int32} {N : Mm} (h_a0 : OK 0 a0 2) (he : f_X2_addOperation M a0 a1 = some N) : KV X 0 l yX2_addOperation (wz yX2_addOperation cX2_addOperation 2 none) rm_X2_addOperation [.ref (X.2.2 a0), .int a1] M N := by
  intro sz
  refine K_of (Qc := (fun sz => QV X 0 N sz)) (own := RX2) (lv0 := [(0, .ref (X.2.2 a0)), (1, .int a1)]) (by decide +kernel) rfl (Nat.le_of_ble_eq_true rfl) rfl (fun p e s m args below meth c S => ?_) sz
  · unfold f_X2_addOperation at he
    refine z_aload_n S dX2_addOperation_0 rfl 0 rfl ?_
    refine z_getF (j := (a0 + 4)) S fo_RX2_21 4 rfl rfl h_a0 dX2_addOperation_1 ?_
    refine z_aload_n S dX2_addOperation_4 rfl 0 rfl ?_
    refine z_getI S fo_RX2_31 rfl h_a0 dX2_addOperation_5 ?_
    refine z_iload_n S dX2_addOperation_8 rfl 1 rfl ?_
    obtain ⟨M1, h9, he⟩ := bnd he
    refine z_cNV (As := [.ref (X.2.2 (a0 + 4)), .int (gI M a0 5), .int a1]) S cn_RX2_40 (Kt_X9_put (okf2_4 h_a0).1 (Option.some.inj h9)) ⟨rfl, rfl⟩ ⟨Nat.le_of_ble_eq_true rfl, Nat.le_of_ble_eq_true rfl⟩ ⟨Nat.le_refl _, Nat.le_refl _⟩ rfl rfl (Nat.le_of_ble_eq_true rfl) dX2_addOperation_9 ?_
    refine z_aload_n S dX2_addOperation_12 rfl 0 rfl ?_
    refine z_dup S rfl dX2_addOperation_13 ?_
    refine z_getI S fo_RX2_31 rfl h_a0 dX2_addOperation_14 ?_
    refine z_iconst (v := 1) S dX2_addOperation_17 (by decide) ?_
    refine z_iadd S dX2_addOperation_18 ?_
    refine z_putIb S fo_RX2_31p rfl h_a0 rfl rfl he dX2_addOperation_19 (fun M2 he => ?_)
    exact z_vret S (Option.some.inj he) dX2_addOperation_22
set_option maxRecDepth 100000 in
set_option maxHeartbeats 4000000 in
theorem K_X2_clear {X : Cx} {l : Launch} {M : Mm} {a0 : Nat} {N : Mm} (h_a0 : OK 0 a0 2) (he : f_X2_clear M a0 = some N) : KV X 0 l yX2_clear (wz yX2_clear cX2_clear 1 none) rm_X2_clear [.ref (X.2.2 a0)] M N := by
  intro sz
  refine K_of (Qc := (fun sz => QV X 0 N sz)) (own := RX2) (lv0 := [(0, .ref (X.2.2 a0))]) (by decide +kernel) rfl (Nat.le_of_ble_eq_true rfl) rfl (fun p e s m args below meth c S => ?_) sz
  · unfold f_X2_clear at he
    refine z_aload_n S dX2_clear_0 rfl 0 rfl ?_
    refine z_iconst (v := 0) S dX2_clear_1 (by decide) ?_
    refine z_putIb S fo_RX2_31p rfl h_a0 rfl rfl he dX2_clear_2 (fun M1 he => ?_)
    refine z_aload_n S dX2_clear_5 rfl 0 rfl ?_
    refine z_iconst (v := 0) S dX2_clear_6 (by decide) ?_
    refine z_putIb S fo_RX2_27p rfl h_a0 rfl rfl he dX2_clear_7 (fun M2 he => ?_)
    exact z_vret S (Option.some.inj he) dX2_clear_10
set_option maxRecDepth 100000 in
set_option maxHeartbeats 4000000 in
theorem K_X2_copyFrom {X : Cx} {l : Launch} {M : Mm} {a0 : Nat} {a1 : Nat} {N : Mm} (h_a0 : OK 0 a0 2) (h_a1 : OK 0 a1 2) (he : f_X2_copyFrom M a0 a1 = some N) : KV X 0 l yX2_copyFrom (wz yX2_copyFrom cX2_copyFrom 2 none) rm_X2_copyFrom [.ref (X.2.2 a0), .ref (X.2.2 a1)] M N := by
  intro sz
  refine K_of (Qc := (fun sz => QV X 0 N sz)) (own := RX2) (lv0 := [(0, .ref (X.2.2 a0)), (1, .ref (X.2.2 a1))]) (by decide +kernel) rfl (Nat.le_of_ble_eq_true rfl) rfl (fun p e s m args below meth c S => ?_) sz
  · unfold f_X2_copyFrom at he
    refine z_aload_n S dX2_copyFrom_0 rfl 1 rfl ?_
    refine z_getF (j := (a1 + 1)) S fo_RX2_9 1 rfl rfl h_a1 dX2_copyFrom_1 ?_
    refine z_iconst (v := 0) S dX2_copyFrom_4 (by decide) ?_
    refine z_aload_n S dX2_copyFrom_5 rfl 0 rfl ?_
    refine z_getF (j := (a0 + 1)) S fo_RX2_9 1 rfl rfl h_a0 dX2_copyFrom_6 ?_
    refine z_iconst (v := 0) S dX2_copyFrom_9 (by decide) ?_
    refine z_aload_n S dX2_copyFrom_10 rfl 0 rfl ?_
    refine z_getF (j := (a0 + 1)) S fo_RX2_9 1 rfl rfl h_a0 dX2_copyFrom_11 ?_
    refine z_alen (v := 12) S (okf2_1 h_a0).1 (cel_i (okf2_1 h_a0).1.2.2) rfl (okf2_1 h_a0).2 rfl dX2_copyFrom_14 ?_
    refine z_copyb S ca_RX2_34 (okf2_1 h_a1).1 (okf2_1 h_a0).1 (okf2_1 h_a1).2 (okf2_1 h_a0).2 (by decide) (by decide) (Nat.le_of_ble_eq_true rfl) (Nat.le_of_ble_eq_true rfl) he dX2_copyFrom_15 (fun M1 he => ?_)
    refine z_aload_n S dX2_copyFrom_18 rfl 1 rfl ?_
    refine z_getF (j := (a1 + 2)) S fo_RX2_15 2 rfl rfl h_a1 dX2_copyFrom_19 ?_
    refine z_iconst (v := 0) S dX2_copyFrom_22 (by decide) ?_
    refine z_aload_n S dX2_copyFrom_23 rfl 0 rfl ?_
    refine z_getF (j := (a0 + 2)) S fo_RX2_15 2 rfl rfl h_a0 dX2_copyFrom_24 ?_
    refine z_iconst (v := 0) S dX2_copyFrom_27 (by decide) ?_
    refine z_aload_n S dX2_copyFrom_28 rfl 0 rfl ?_
    refine z_getF (j := (a0 + 2)) S fo_RX2_15 2 rfl rfl h_a0 dX2_copyFrom_29 ?_
    refine z_alen (v := 12) S (okf2_2 h_a0).1 (cel_i (okf2_2 h_a0).1.2.2) rfl (okf2_2 h_a0).2 rfl dX2_copyFrom_32 ?_
    refine z_copyb S ca_RX2_34 (okf2_2 h_a1).1 (okf2_2 h_a0).1 (okf2_2 h_a1).2 (okf2_2 h_a0).2 (by decide) (by decide) (Nat.le_of_ble_eq_true rfl) (Nat.le_of_ble_eq_true rfl) he dX2_copyFrom_33 (fun M2 he => ?_)
    refine z_aload_n S dX2_copyFrom_36 rfl 1 rfl ?_
    refine z_getF (j := (a1 + 3)) S fo_RX2_18 3 rfl rfl h_a1 dX2_copyFrom_37 ?_
    refine z_iconst (v := 0) S dX2_copyFrom_40 (by decide) ?_
    refine z_aload_n S dX2_copyFrom_41 rfl 0 rfl ?_
    refine z_getF (j := (a0 + 3)) S fo_RX2_18 3 rfl rfl h_a0 dX2_copyFrom_42 ?_
    refine z_iconst (v := 0) S dX2_copyFrom_45 (by decide) ?_
    refine z_aload_n S dX2_copyFrom_46 rfl 0 rfl ?_
    refine z_getF (j := (a0 + 3)) S fo_RX2_18 3 rfl rfl h_a0 dX2_copyFrom_47 ?_
    refine z_alen (v := 12) S (okf2_3 h_a0).1 (cel_i (okf2_3 h_a0).1.2.2) rfl (okf2_3 h_a0).2 rfl dX2_copyFrom_50 ?_
    refine z_copyb S ca_RX2_34 (okf2_3 h_a1).1 (okf2_3 h_a0).1 (okf2_3 h_a1).2 (okf2_3 h_a0).2 (by decide) (by decide) (Nat.le_of_ble_eq_true rfl) (Nat.le_of_ble_eq_true rfl) he dX2_copyFrom_51 (fun M3 he => ?_)
    refine z_aload_n S dX2_copyFrom_54 rfl 1 rfl ?_
    refine z_getF (j := (a1 + 4)) S fo_RX2_21 4 rfl rfl h_a1 dX2_copyFrom_55 ?_
    refine z_iconst (v := 0) S dX2_copyFrom_58 (by decide) ?_
    refine z_aload_n S dX2_copyFrom_59 rfl 0 rfl ?_
    refine z_getF (j := (a0 + 4)) S fo_RX2_21 4 rfl rfl h_a0 dX2_copyFrom_60 ?_
    refine z_iconst (v := 0) S dX2_copyFrom_63 (by decide) ?_
    refine z_aload_n S dX2_copyFrom_64 rfl 0 rfl ?_
    refine z_getF (j := (a0 + 4)) S fo_RX2_21 4 rfl rfl h_a0 dX2_copyFrom_65 ?_
    refine z_alen (v := 400) S (okf2_4 h_a0).1 (cel_i (okf2_4 h_a0).1.2.2) rfl (okf2_4 h_a0).2 rfl dX2_copyFrom_68 ?_
    refine z_copyb S ca_RX2_34 (okf2_4 h_a1).1 (okf2_4 h_a0).1 (okf2_4 h_a1).2 (okf2_4 h_a0).2 (by decide) (by decide) (Nat.le_of_ble_eq_true rfl) (Nat.le_of_ble_eq_true rfl) he dX2_copyFrom_69 (fun M4 he => ?_)
    refine z_aload_n S dX2_copyFrom_72 rfl 0 rfl ?_
    refine z_aload_n S dX2_copyFrom_73 rfl 1 rfl ?_
    refine z_getI S fo_RX2_31 rfl h_a1 dX2_copyFrom_74 ?_
    refine z_putIb S fo_RX2_31p rfl h_a0 rfl rfl he dX2_copyFrom_77 (fun M5 he => ?_)
    refine z_aload_n S dX2_copyFrom_80 rfl 0 rfl ?_
    refine z_aload_n S dX2_copyFrom_81 rfl 1 rfl ?_
    refine z_getI S fo_RX2_27 rfl h_a1 dX2_copyFrom_82 ?_
    refine z_putIb S fo_RX2_27p rfl h_a0 rfl rfl he dX2_copyFrom_85 (fun M6 he => ?_)
    exact z_vret S (Option.some.inj he) dX2_copyFrom_88
set_option maxRecDepth 100000 in
set_option maxHeartbeats 4000000 in
theorem K_X2_endLine {X : Cx} {l : Launch} {M : Mm} {a0 : Nat} {a1 : Int32} {a2 : Int32} {N : Mm} (h_a0 : OK 0 a0 2) (he : f_X2_endLine M a0 a1 a2 = some N) : KV X 0 l yX2_endLine (wz yX2_endLine cX2_endLine 3 none) rm_X2_endLine [.ref (X.2.2 a0), .int a1, .int a2] M N := by
  intro sz
  refine K_of (Qc := (fun sz => QV X 0 N sz)) (own := RX2) (lv0 := [(0, .ref (X.2.2 a0)), (1, .int a1), (2, .int a2)]) (by decide +kernel) rfl (Nat.le_of_ble_eq_true rfl) rfl (fun p e s m args below meth c S => ?_) sz
  · unfold f_X2_endLine at he
    refine z_aload_n S dX2_endLine_0 rfl 0 rfl ?_
    refine z_getF (j := (a0 + 2)) S fo_RX2_15 2 rfl rfl h_a0 dX2_endLine_1 ?_
    refine z_aload_n S dX2_endLine_4 rfl 0 rfl ?_
    refine z_getI S fo_RX2_27 rfl h_a0 dX2_endLine_5 ?_
    refine z_iload_n S dX2_endLine_8 rfl 1 rfl ?_
    obtain ⟨M1, h9, he⟩ := bnd he
    refine z_cNV (As := [.ref (X.2.2 (a0 + 2)), .int (gI M a0 6), .int a1]) S cn_RX2_40 (Kt_X9_put (okf2_2 h_a0).1 (Option.some.inj h9)) ⟨rfl, rfl⟩ ⟨Nat.le_of_ble_eq_true rfl, Nat.le_of_ble_eq_true rfl⟩ ⟨Nat.le_refl _, Nat.le_refl _⟩ rfl rfl (Nat.le_of_ble_eq_true rfl) dX2_endLine_9 ?_
    refine z_aload_n S dX2_endLine_12 rfl 0 rfl ?_
    refine z_getF (j := (a0 + 1)) S fo_RX2_9 1 rfl rfl h_a0 dX2_endLine_13 ?_
    refine z_aload_n S dX2_endLine_16 rfl 0 rfl ?_
    refine z_getI S fo_RX2_27 rfl h_a0 dX2_endLine_17 ?_
    refine z_iload_n S dX2_endLine_20 rfl 2 rfl ?_
    obtain ⟨M2, h9, he⟩ := bnd he
    refine z_cNV (As := [.ref (X.2.2 (a0 + 1)), .int (gI M1 a0 6), .int a2]) S cn_RX2_40 (Kt_X9_put (okf2_1 h_a0).1 (Option.some.inj h9)) ⟨rfl, rfl⟩ ⟨Nat.le_of_ble_eq_true rfl, Nat.le_of_ble_eq_true rfl⟩ ⟨Nat.le_refl _, Nat.le_refl _⟩ rfl rfl (Nat.le_of_ble_eq_true rfl) dX2_endLine_21 ?_
    refine z_aload_n S dX2_endLine_24 rfl 0 rfl ?_
    refine z_getF (j := (a0 + 3)) S fo_RX2_18 3 rfl rfl h_a0 dX2_endLine_25 ?_
    refine z_aload_n S dX2_endLine_28 rfl 0 rfl ?_
    refine z_getI S fo_RX2_27 rfl h_a0 dX2_endLine_29 ?_
    refine z_aload_n S dX2_endLine_32 rfl 0 rfl ?_
    refine z_getI S fo_RX2_31 rfl h_a0 dX2_endLine_33 ?_
    obtain ⟨M3, h9, he⟩ := bnd he
    refine z_cNV (As := [.ref (X.2.2 (a0 + 3)), .int (gI M2 a0 6), .int (gI M2 a0 5)]) S cn_RX2_40 (Kt_X9_put (okf2_3 h_a0).1 (Option.some.inj h9)) ⟨rfl, rfl⟩ ⟨Nat.le_of_ble_eq_true rfl, Nat.le_of_ble_eq_true rfl⟩ ⟨Nat.le_refl _, Nat.le_refl _⟩ rfl rfl (Nat.le_of_ble_eq_true rfl) dX2_endLine_36 ?_
    refine z_aload_n S dX2_endLine_39 rfl 0 rfl ?_
    refine z_dup S rfl dX2_endLine_40 ?_
    refine z_getI S fo_RX2_27 rfl h_a0 dX2_endLine_41 ?_
    refine z_iconst (v := 1) S dX2_endLine_44 (by decide) ?_
    refine z_iadd S dX2_endLine_45 ?_
    refine z_putIb S fo_RX2_27p rfl h_a0 rfl rfl he dX2_endLine_46 (fun M4 he => ?_)
    exact z_vret S (Option.some.inj he) dX2_endLine_49
set_option maxRecDepth 100000 in
set_option maxHeartbeats 4000000 in
theorem K_X2_joined {X : Cx} {l : Launch} {M : Mm} {a0 : Int32} {a1 : Int32} {r : Int32}  (he : f_X2_joined M a0 a1 = r) : KI X 0 l yX2_joined (wz yX2_joined cX2_joined 4 (some .int)) rm_X2_joined [.int a0, .int a1] M r M := by
  intro sz
  refine K_of (Qc := (fun sz => QI X 0 r M sz)) (own := RX2) (lv0 := [(0, .int a0), (1, .int a1)]) (by decide +kernel) rfl (Nat.le_of_ble_eq_true rfl) rfl (fun p e s m args below meth c S => ?_) sz
  · unfold f_X2_joined at he
    refine z_iload_n S dX2_joined_0 rfl 0 rfl ?_
    refine z_sipush (v := 1023) S dX2_joined_1 (by decide) ?_
    refine z_icmp_ne (tgt := 11) S he dX2_joined_4 (by decide) (fun he => ?_) (fun he => ?_)
    · refine z_iload_n S dX2_joined_11 rfl 1 rfl ?_
      refine z_iconst (v := 1) S dX2_joined_12 (by decide) ?_
      refine z_iand S dX2_joined_13 ?_
      refine z_istore_n (lv' := [(0, .int a0), (1, .int a1), (2, .int (a1 &&& 1))]) S [1, 2, 0] dX2_joined_14 rfl (by decide) rfl ?_
      refine z_iload_n S dX2_joined_15 rfl 1 rfl ?_
      refine z_iconst (v := 1) S dX2_joined_16 (by decide) ?_
      refine z_ishr S dX2_joined_17 ?_
      refine z_istore_n (lv' := [(0, .int a0), (2, .int (a1 &&& 1)), (3, .int (a1 >>> (1 &&& 31)))]) S [1, 3, 0] dX2_joined_18 rfl (by decide) rfl ?_
      refine z_iload_n S dX2_joined_19 rfl 0 rfl ?_
      refine z_sipush (v := 1025) S dX2_joined_20 (by decide) ?_
      refine z_icmp_ne (tgt := 32) S he dX2_joined_23 (by decide) (fun he => ?_) (fun he => ?_)
      · refine z_iload_n S dX2_joined_32 rfl 2 rfl ?_
        refine z_iload_n S dX2_joined_33 rfl 1 rfl ?_
        refine z_bipush (v := (-2)) S dX2_joined_34 (by decide) ?_
        refine z_ior S dX2_joined_36 ?_
        refine z_iand S dX2_joined_37 ?_
        exact z_iret S (⟨he, rfl⟩) dX2_joined_38
      · refine z_iload_n S dX2_joined_26 rfl 2 rfl ?_
        refine z_iload_n S dX2_joined_27 rfl 1 rfl ?_
        refine z_ior S dX2_joined_28 ?_
        refine z_goto (tgt := 38) S dX2_joined_29 (by decide) ?_
        exact z_iret S (⟨he, rfl⟩) dX2_joined_38
    · refine z_iload_n S dX2_joined_7 rfl 1 rfl ?_
      refine z_iconst (v := 1) S dX2_joined_8 (by decide) ?_
      refine z_ixor S dX2_joined_9 ?_
      exact z_iret S (⟨he, rfl⟩) dX2_joined_10
set_option maxRecDepth 100000 in
set_option maxHeartbeats 4000000 in
theorem p_X2_holds_J21_165 {X : Cx} {p : Program} {l : Launch} {e : Env} {s : State} {m : MethodId} {args : Array Value} {below : List Frame} {meth : Method} {c : Code} (S : SB X 0 p s m args meth c cX2_holds 10 (some .boolean) RX2) {M : Mm} {r : Bool} {v0 : Nat} {v1 : Int32} {v3 : Int32} {v6 : Int32} {v7 : Int32} {t0 : Int32} {t1 : Int32} {x : (Int32 × Int32 × Int32 × Int32) ⊕ Int32} (h_v0 : OK 0 v0 2) (he : f_X2_holds_J21_165 M v0 v1 v3 v6 v7 t0 t1 = some x) (hc : ∀ b, x = .inl b → Z X 0 p l e rm_X2_holds s m args below meth c 0 0 (MQ below (QI X 0 (bI r) M s.heap.size) args s 0 0 (AA X 0 s.heap.size)) 10 M 21 [(0, .ref (X.2.2 v0)), (1, .int v1), (3, .int v3), (4, .int b.1), (5, .int b.2.1), (6, .int b.2.2.1), (7, .int b.2.2.2)] []) (hx : ∀ b, x = .inr b → Z X 0 p l e rm_X2_holds s m args below meth c 0 0 (MQ below (QI X 0 (bI r) M s.heap.size) args s 0 0 (AA X 0 s.heap.size)) 10 M 217 [(4, .int b)] []) : Z X 0 p l e rm_X2_holds s m args below meth c 0 0 (MQ below (QI X 0 (bI r) M s.heap.size) args s 0 0 (AA X 0 s.heap.size)) 10 M 165 [(0, .ref (X.2.2 v0)), (1, .int v1), (3, .int v3), (6, .int v6), (7, .int v7)] [.int t0, .int t1] := by
  unfold f_X2_holds_J21_165 at he
  refine z_ior S dX2_holds_165 ?_
  refine z_istore (lv' := [(0, .ref (X.2.2 v0)), (1, .int v1), (3, .int v3), (4, .int (t1 ||| t0)), (6, .int v6), (7, .int v7)]) S [1, 2, 3, 0, 4, 5] dX2_holds_166 (by decide) rfl ?_
  refine z_iconst (v := 0) S dX2_holds_168 (by decide) ?_
  refine z_istore (lv' := [(0, .ref (X.2.2 v0)), (1, .int v1), (3, .int v3), (4, .int (t1 ||| t0)), (5, .int 0), (6, .int v6), (7, .int v7)]) S [1, 2, 3, 4, 0, 5, 6] dX2_holds_169 (by decide) rfl ?_
  refine z_goto (tgt := 211) S dX2_holds_171 (by decide) ?_
  refine z_iinc (v := (v7 + 1)) (lv' := [(0, .ref (X.2.2 v0)), (1, .int v1), (3, .int v3), (4, .int (t1 ||| t0)), (5, .int 0), (6, .int v6), (7, .int (v7 + 1))]) S [1, 2, 3, 4, 5, 6, 0] 6 dX2_holds_211 rfl (by rfl) (by decide) rfl ?_
  refine z_goto (tgt := 21) S dX2_holds_214 (by decide) ?_
  refine z_lv (ks := [0, 1, 2, 3, 4, 5, 6]) rfl ?_
  exact hc _ (Option.some.inj he).symm
set_option maxRecDepth 100000 in
set_option maxHeartbeats 4000000 in
theorem p_X2_holds_J21_149 {X : Cx} {p : Program} {l : Launch} {e : Env} {s : State} {m : MethodId} {args : Array Value} {below : List Frame} {meth : Method} {c : Code} (S : SB X 0 p s m args meth c cX2_holds 10 (some .boolean) RX2) {M : Mm} {r : Bool} {v0 : Nat} {v1 : Int32} {v3 : Int32} {v4 : Int32} {v6 : Int32} {v7 : Int32} {t0 : Int32} {x : (Int32 × Int32 × Int32 × Int32) ⊕ Int32} (h_v0 : OK 0 v0 2) (he : f_X2_holds_J21_149 M v0 v1 v3 v4 v6 v7 t0 = some x) (hc : ∀ b, x = .inl b → Z X 0 p l e rm_X2_holds s m args below meth c 0 0 (MQ below (QI X 0 (bI r) M s.heap.size) args s 0 0 (AA X 0 s.heap.size)) 10 M 21 [(0, .ref (X.2.2 v0)), (1, .int v1), (3, .int v3), (4, .int b.1), (5, .int b.2.1), (6, .int b.2.2.1), (7, .int b.2.2.2)] []) (hx : ∀ b, x = .inr b → Z X 0 p l e rm_X2_holds s m args below meth c 0 0 (MQ below (QI X 0 (bI r) M s.heap.size) args s 0 0 (AA X 0 s.heap.size)) 10 M 217 [(4, .int b)] []) : Z X 0 p l e rm_X2_holds s m args below meth c 0 0 (MQ below (QI X 0 (bI r) M s.heap.size) args s 0 0 (AA X 0 s.heap.size)) 10 M 149 [(0, .ref (X.2.2 v0)), (1, .int v1), (3, .int v3), (4, .int v4), (6, .int v6), (7, .int v7)] [.int t0] := by
  unfold f_X2_holds_J21_149 at he
  refine z_istore (lv' := [(0, .ref (X.2.2 v0)), (1, .int v1), (3, .int v3), (4, .int v4), (6, .int v6), (7, .int v7), (9, .int t0)]) S [1, 2, 3, 4, 5, 6, 0] dX2_holds_149 (by decide) rfl ?_
  refine z_iload S dX2_holds_151 3 rfl ?_
  refine z_iconst (v := 1) S dX2_holds_153 (by decide) ?_
  refine z_ishl S dX2_holds_154 ?_
  refine z_iload S dX2_holds_155 6 rfl ?_
  refine z_if_eq (tgt := 164) S he dX2_holds_157 (by decide) (fun he => ?_) (fun he => ?_)
  · refine z_iconst (v := 0) S dX2_holds_164 (by decide) ?_
    refine z_lv (ks := [0, 1, 2, 4, 5]) rfl ?_
    exact p_X2_holds_J21_165 S h_v0 he hc hx
  · refine z_iconst (v := 1) S dX2_holds_160 (by decide) ?_
    refine z_goto (tgt := 165) S dX2_holds_161 (by decide) ?_
    refine z_lv (ks := [0, 1, 2, 4, 5]) rfl ?_
    exact p_X2_holds_J21_165 S h_v0 he hc hx
set_option maxRecDepth 100000 in
set_option maxHeartbeats 4000000 in
theorem p_X2_holds_J21_114 {X : Cx} {p : Program} {l : Launch} {e : Env} {s : State} {m : MethodId} {args : Array Value} {below : List Frame} {meth : Method} {c : Code} (S : SB X 0 p s m args meth c cX2_holds 10 (some .boolean) RX2) {M : Mm} {r : Bool} {v0 : Nat} {v1 : Int32} {v3 : Int32} {v4 : Int32} {v5 : Int32} {v6 : Int32} {v7 : Int32} {v8 : Int32} {x : (Int32 × Int32 × Int32 × Int32) ⊕ Int32} (h_v0 : OK 0 v0 2) (he : f_X2_holds_J21_114 M v0 v1 v3 v4 v5 v6 v7 v8 = some x) (hc : ∀ b, x = .inl b → Z X 0 p l e rm_X2_holds s m args below meth c 0 0 (MQ below (QI X 0 (bI r) M s.heap.size) args s 0 0 (AA X 0 s.heap.size)) 10 M 21 [(0, .ref (X.2.2 v0)), (1, .int v1), (3, .int v3), (4, .int b.1), (5, .int b.2.1), (6, .int b.2.2.1), (7, .int b.2.2.2)] []) (hx : ∀ b, x = .inr b → Z X 0 p l e rm_X2_holds s m args below meth c 0 0 (MQ below (QI X 0 (bI r) M s.heap.size) args s 0 0 (AA X 0 s.heap.size)) 10 M 217 [(4, .int b)] []) : Z X 0 p l e rm_X2_holds s m args below meth c 0 0 (MQ below (QI X 0 (bI r) M s.heap.size) args s 0 0 (AA X 0 s.heap.size)) 10 M 114 [(0, .ref (X.2.2 v0)), (1, .int v1), (3, .int v3), (4, .int v4), (5, .int v5), (6, .int v6), (7, .int v7), (8, .int v8)] [] := by
  unfold f_X2_holds_J21_114 at he
  refine z_iload S dX2_holds_114 7 rfl ?_
  refine z_sipush (v := 1021) S dX2_holds_116 (by decide) ?_
  refine z_icmp_ne (tgt := 137) S he dX2_holds_119 (by decide) (fun he => ?_) (fun he => ?_)
  · refine z_iload S dX2_holds_137 5 rfl ?_
    refine z_iload S dX2_holds_139 4 rfl ?_
    refine z_icmp_le (tgt := 148) S he dX2_holds_141 (by decide) (fun he => ?_) (fun he => ?_)
    · refine z_iconst (v := 0) S dX2_holds_148 (by decide) ?_
      refine z_lv (ks := [0, 1, 2, 3, 5, 6]) rfl ?_
      exact p_X2_holds_J21_149 S h_v0 he hc hx
    · refine z_iconst (v := 1) S dX2_holds_144 (by decide) ?_
      refine z_goto (tgt := 149) S dX2_holds_145 (by decide) ?_
      refine z_lv (ks := [0, 1, 2, 3, 5, 6]) rfl ?_
      exact p_X2_holds_J21_149 S h_v0 he hc hx
  · refine z_iload S dX2_holds_122 5 rfl ?_
    refine z_iload S dX2_holds_124 4 rfl ?_
    refine z_icmp_ge (tgt := 133) S he dX2_holds_126 (by decide) (fun he => ?_) (fun he => ?_)
    · refine z_iconst (v := 0) S dX2_holds_133 (by decide) ?_
      refine z_goto (tgt := 149) S dX2_holds_134 (by decide) ?_
      refine z_lv (ks := [0, 1, 2, 3, 5, 6]) rfl ?_
      exact p_X2_holds_J21_149 S h_v0 he hc hx
    · refine z_iconst (v := 1) S dX2_holds_129 (by decide) ?_
      refine z_goto (tgt := 149) S dX2_holds_130 (by decide) ?_
      refine z_lv (ks := [0, 1, 2, 3, 5, 6]) rfl ?_
      exact p_X2_holds_J21_149 S h_v0 he hc hx
set_option maxRecDepth 100000 in
set_option maxHeartbeats 4000000 in
theorem p_X2_holds_J21_74 {X : Cx} {p : Program} {l : Launch} {e : Env} {s : State} {m : MethodId} {args : Array Value} {below : List Frame} {meth : Method} {c : Code} (S : SB X 0 p s m args meth c cX2_holds 10 (some .boolean) RX2) {M : Mm} {r : Bool} {v0 : Nat} {v1 : Int32} {v3 : Int32} {v4 : Int32} {v6 : Int32} {v7 : Int32} {t0 : Int32} {t1 : Int32} {x : (Int32 × Int32 × Int32 × Int32) ⊕ Int32} (h_v0 : OK 0 v0 2) (he : f_X2_holds_J21_74 M v0 v1 v3 v4 v6 v7 t0 t1 = some x) (hc : ∀ b, x = .inl b → Z X 0 p l e rm_X2_holds s m args below meth c 0 0 (MQ below (QI X 0 (bI r) M s.heap.size) args s 0 0 (AA X 0 s.heap.size)) 10 M 21 [(0, .ref (X.2.2 v0)), (1, .int v1), (3, .int v3), (4, .int b.1), (5, .int b.2.1), (6, .int b.2.2.1), (7, .int b.2.2.2)] []) (hx : ∀ b, x = .inr b → Z X 0 p l e rm_X2_holds s m args below meth c 0 0 (MQ below (QI X 0 (bI r) M s.heap.size) args s 0 0 (AA X 0 s.heap.size)) 10 M 217 [(4, .int b)] []) : Z X 0 p l e rm_X2_holds s m args below meth c 0 0 (MQ below (QI X 0 (bI r) M s.heap.size) args s 0 0 (AA X 0 s.heap.size)) 10 M 74 [(0, .ref (X.2.2 v0)), (1, .int v1), (3, .int v3), (4, .int v4), (6, .int v6), (7, .int v7)] [.int t0, .int t1] := by
  unfold f_X2_holds_J21_74 at he
  refine z_iadd S dX2_holds_74 ?_
  refine z_istore (lv' := [(0, .ref (X.2.2 v0)), (1, .int v1), (3, .int v3), (4, .int v4), (5, .int (t1 + t0)), (6, .int v6), (7, .int v7)]) S [1, 2, 3, 4, 0, 5, 6] dX2_holds_75 (by decide) rfl ?_
  refine z_goto (tgt := 211) S dX2_holds_77 (by decide) ?_
  refine z_iinc (v := (v7 + 1)) (lv' := [(0, .ref (X.2.2 v0)), (1, .int v1), (3, .int v3), (4, .int v4), (5, .int (t1 + t0)), (6, .int v6), (7, .int (v7 + 1))]) S [1, 2, 3, 4, 5, 6, 0] 6 dX2_holds_211 rfl (by rfl) (by decide) rfl ?_
  refine z_goto (tgt := 21) S dX2_holds_214 (by decide) ?_
  refine z_lv (ks := [0, 1, 2, 3, 4, 5, 6]) rfl ?_
  exact hc _ (Option.some.inj he).symm
set_option maxRecDepth 100000 in
set_option maxHeartbeats 4000000 in
theorem p_X2_holds_L21 {X : Cx} {p : Program} {l : Launch} {e : Env} {s : State} {m : MethodId} {args : Array Value} {below : List Frame} {meth : Method} {c : Code} (S : SB X 0 p s m args meth c cX2_holds 10 (some .boolean) RX2) {M : Mm} {r : Bool} {v0 : Nat} {v1 : Int32} {v3 : Int32} {v4 : Int32} {v5 : Int32} {v6 : Int32} {v7 : Int32} {x : (Int32 × Int32 × Int32 × Int32) ⊕ Int32} (h_v0 : OK 0 v0 2) (he : f_X2_holds_L21 M v0 v1 v3 v4 v5 v6 v7 = some x) (hc : ∀ b, x = .inl b → Z X 0 p l e rm_X2_holds s m args below meth c 0 0 (MQ below (QI X 0 (bI r) M s.heap.size) args s 0 0 (AA X 0 s.heap.size)) 10 M 21 [(0, .ref (X.2.2 v0)), (1, .int v1), (3, .int v3), (4, .int b.1), (5, .int b.2.1), (6, .int b.2.2.1), (7, .int b.2.2.2)] []) (hx : ∀ b, x = .inr b → Z X 0 p l e rm_X2_holds s m args below meth c 0 0 (MQ below (QI X 0 (bI r) M s.heap.size) args s 0 0 (AA X 0 s.heap.size)) 10 M 217 [(4, .int b)] []) : Z X 0 p l e rm_X2_holds s m args below meth c 0 0 (MQ below (QI X 0 (bI r) M s.heap.size) args s 0 0 (AA X 0 s.heap.size)) 10 M 21 [(0, .ref (X.2.2 v0)), (1, .int v1), (3, .int v3), (4, .int v4), (5, .int v5), (6, .int v6), (7, .int v7)] [] := by
  unfold f_X2_holds_L21 at he
  refine z_iload S dX2_holds_21 6 rfl ?_
  refine z_iload_n S dX2_holds_23 rfl 2 rfl ?_
  refine z_icmp_ge (tgt := 217) S he dX2_holds_24 (by decide) (fun he => ?_) (fun he => ?_)
  · refine z_lv (ks := [3]) rfl ?_
    exact hx _ (Option.some.inj he).symm
  · refine z_aload_n S dX2_holds_27 rfl 0 rfl ?_
    refine z_getF (j := (v0 + 4)) S fo_RX2_21 4 rfl rfl h_v0 dX2_holds_28 ?_
    refine z_iload S dX2_holds_31 6 rfl ?_
    refine z_cNI (As := [.ref (X.2.2 (v0 + 4)), .int v7]) S cn_RX2_56 (Kt_X9_at (okf2_4 h_v0).1 rfl) ⟨rfl, rfl⟩ ⟨Nat.le_of_ble_eq_true rfl, Nat.le_of_ble_eq_true rfl⟩ ⟨Nat.le_refl _, Nat.le_refl _⟩ rfl rfl (Nat.le_of_ble_eq_true rfl) dX2_holds_33 ?_
    refine z_istore (lv' := [(0, .ref (X.2.2 v0)), (1, .int v1), (3, .int v3), (4, .int v4), (5, .int v5), (6, .int v6), (7, .int v7), (8, .int (t_X9_at M (v0 + 4) v7))]) S [1, 2, 3, 4, 5, 6, 7, 0] dX2_holds_36 (by decide) rfl ?_
    refine z_iload S dX2_holds_38 7 rfl ?_
    refine z_sipush (v := 1010) S dX2_holds_40 (by decide) ?_
    refine z_icmp_ge (tgt := 80) S he dX2_holds_43 (by decide) (fun he => ?_) (fun he => ?_)
    · refine z_iload S dX2_holds_80 7 rfl ?_
      refine z_sipush (v := 1020) S dX2_holds_82 (by decide) ?_
      refine z_icmp_ne (tgt := 98) S he dX2_holds_85 (by decide) (fun he => ?_) (fun he => ?_)
      · refine z_iload S dX2_holds_98 7 rfl ?_
        refine z_sipush (v := 1021) S dX2_holds_100 (by decide) ?_
        refine z_icmp_eq (tgt := 114) S he dX2_holds_103 (by decide) (fun he => ?_) (fun he => ?_)
        · exact p_X2_holds_J21_114 S h_v0 he hc hx
        · refine z_iload S dX2_holds_106 7 rfl ?_
          refine z_sipush (v := 1022) S dX2_holds_108 (by decide) ?_
          refine z_icmp_ne (tgt := 174) S he dX2_holds_111 (by decide) (fun he => ?_) (fun he => ?_)
          · refine z_iload S dX2_holds_174 7 rfl ?_
            refine z_sipush (v := 1023) S dX2_holds_176 (by decide) ?_
            refine z_icmp_lt (tgt := 194) S he dX2_holds_179 (by decide) (fun he => ?_) (fun he => ?_)
            · refine z_iload S dX2_holds_194 3 rfl ?_
              refine z_iconst (v := 1) S dX2_holds_196 (by decide) ?_
              refine z_ishl S dX2_holds_197 ?_
              refine z_iload_n S dX2_holds_198 rfl 1 rfl ?_
              refine z_iload S dX2_holds_199 7 rfl ?_
              refine z_sipush (v := 1010) S dX2_holds_201 (by decide) ?_
              refine z_isub S dX2_holds_204 ?_
              refine z_ishr S dX2_holds_205 ?_
              refine z_iconst (v := 1) S dX2_holds_206 (by decide) ?_
              refine z_iand S dX2_holds_207 ?_
              refine z_ior S dX2_holds_208 ?_
              obtain ⟨x1, ex1, he⟩ := bnd he
              rw [Option.some.inj ex1]
              refine z_istore (lv' := [(0, .ref (X.2.2 v0)), (1, .int v1), (3, .int v3), (4, .int x1), (5, .int v5), (6, .int v6), (7, .int v7)]) S [1, 2, 3, 0, 4, 5, 6] dX2_holds_209 (by decide) rfl ?_
              refine z_iinc (v := (v7 + 1)) (lv' := [(0, .ref (X.2.2 v0)), (1, .int v1), (3, .int v3), (4, .int x1), (5, .int v5), (6, .int v6), (7, .int (v7 + 1))]) S [1, 2, 3, 4, 5, 6, 0] 6 dX2_holds_211 rfl (by rfl) (by decide) rfl ?_
              refine z_goto (tgt := 21) S dX2_holds_214 (by decide) ?_
              refine z_lv (ks := [0, 1, 2, 3, 4, 5, 6]) rfl ?_
              exact hc _ (Option.some.inj he).symm
            · refine z_iload S dX2_holds_182 7 rfl ?_
              refine z_iload S dX2_holds_184 3 rfl ?_
              refine z_cSI (As := [.int (t_X9_at M (v0 + 4) v7), .int v4]) S cs_RX2_69 (K_X2_joined  rfl) ⟨rfl, rfl⟩ ⟨Nat.le_of_ble_eq_true rfl, Nat.le_of_ble_eq_true rfl⟩ ⟨Nat.le_refl _, Nat.le_refl _⟩ rfl rfl (Nat.le_of_ble_eq_true rfl) dX2_holds_186 ?_
              obtain ⟨x2, ex2, he⟩ := bnd he
              rw [Option.some.inj ex2]
              refine z_istore (lv' := [(0, .ref (X.2.2 v0)), (1, .int v1), (3, .int v3), (4, .int x2), (5, .int v5), (6, .int v6), (7, .int v7)]) S [1, 2, 3, 0, 4, 5, 6] dX2_holds_189 (by decide) rfl ?_
              refine z_goto (tgt := 211) S dX2_holds_191 (by decide) ?_
              refine z_iinc (v := (v7 + 1)) (lv' := [(0, .ref (X.2.2 v0)), (1, .int v1), (3, .int v3), (4, .int x2), (5, .int v5), (6, .int v6), (7, .int (v7 + 1))]) S [1, 2, 3, 4, 5, 6, 0] 6 dX2_holds_211 rfl (by rfl) (by decide) rfl ?_
              refine z_goto (tgt := 21) S dX2_holds_214 (by decide) ?_
              refine z_lv (ks := [0, 1, 2, 3, 4, 5, 6]) rfl ?_
              exact hc _ (Option.some.inj he).symm
          · exact p_X2_holds_J21_114 S h_v0 he hc hx
      · refine z_iload S dX2_holds_88 4 rfl ?_
        refine z_istore (lv' := [(0, .ref (X.2.2 v0)), (1, .int v1), (3, .int v3), (4, .int v4), (6, .int v5), (7, .int v7)]) S [1, 2, 3, 4, 0, 6] dX2_holds_90 (by decide) rfl ?_
        refine z_iconst (v := 0) S dX2_holds_92 (by decide) ?_
        refine z_istore (lv' := [(0, .ref (X.2.2 v0)), (1, .int v1), (3, .int v3), (4, .int v4), (5, .int 0), (6, .int v5), (7, .int v7)]) S [1, 2, 3, 4, 0, 5, 6] dX2_holds_93 (by decide) rfl ?_
        refine z_goto (tgt := 211) S dX2_holds_95 (by decide) ?_
        refine z_iinc (v := (v7 + 1)) (lv' := [(0, .ref (X.2.2 v0)), (1, .int v1), (3, .int v3), (4, .int v4), (5, .int 0), (6, .int v5), (7, .int (v7 + 1))]) S [1, 2, 3, 4, 5, 6, 0] 6 dX2_holds_211 rfl (by rfl) (by decide) rfl ?_
        refine z_goto (tgt := 21) S dX2_holds_214 (by decide) ?_
        refine z_lv (ks := [0, 1, 2, 3, 4, 5, 6]) rfl ?_
        exact hc _ (Option.some.inj he).symm
    · refine z_iload S dX2_holds_46 4 rfl ?_
      refine z_iload S dX2_holds_48 7 rfl ?_
      refine z_sipush (v := 1000) S dX2_holds_50 (by decide) ?_
      refine z_icmp_ge (tgt := 61) S he dX2_holds_53 (by decide) (fun he => ?_) (fun he => ?_)
      · refine z_aload_n S dX2_holds_61 rfl 0 rfl ?_
        refine z_getF (j := (v0 + 5)) S fo_RX2_24 5 rfl rfl h_v0 dX2_holds_62 ?_
        refine z_iload S dX2_holds_65 7 rfl ?_
        refine z_sipush (v := 1000) S dX2_holds_67 (by decide) ?_
        refine z_isub S dX2_holds_70 ?_
        refine z_cNI (As := [.ref (X.2.2 (v0 + 5)), .int ((t_X9_at M (v0 + 4) v7) - 1000)]) S cn_RX2_56 (Kt_X9_at (okf2_5 h_v0).1 rfl) ⟨rfl, rfl⟩ ⟨Nat.le_of_ble_eq_true rfl, Nat.le_of_ble_eq_true rfl⟩ ⟨Nat.le_refl _, Nat.le_refl _⟩ rfl rfl (Nat.le_of_ble_eq_true rfl) dX2_holds_71 ?_
        refine z_lv (ks := [0, 1, 2, 3, 5, 6]) rfl ?_
        exact p_X2_holds_J21_74 S h_v0 he hc hx
      · refine z_iload S dX2_holds_56 7 rfl ?_
        refine z_goto (tgt := 74) S dX2_holds_58 (by decide) ?_
        refine z_lv (ks := [0, 1, 2, 3, 5, 6]) rfl ?_
        exact p_X2_holds_J21_74 S h_v0 he hc hx
set_option maxRecDepth 100000 in
set_option maxHeartbeats 4000000 in
theorem p_X2_holds_J10 {X : Cx} {p : Program} {l : Launch} {e : Env} {s : State} {m : MethodId} {args : Array Value} {below : List Frame} {meth : Method} {c : Code} (S : SB X 0 p s m args meth c cX2_holds 10 (some .boolean) RX2) {M : Mm} {r : Bool} {v0 : Nat} {v1 : Int32} {v2 : Int32} {v3 : Int32} {t0 : Int32} (h_v0 : OK 0 v0 2) (he : f_X2_holds_J10 M v0 v1 v2 v3 t0 = some r) : Z X 0 p l e rm_X2_holds s m args below meth c 0 0 (MQ below (QI X 0 (bI r) M s.heap.size) args s 0 0 (AA X 0 s.heap.size)) 10 M 10 [(0, .ref (X.2.2 v0)), (1, .int v1), (2, .int v2), (3, .int v3)] [.int t0] := by
  unfold f_X2_holds_J10 at he
  refine z_istore (lv' := [(0, .ref (X.2.2 v0)), (1, .int v1), (2, .int v2), (3, .int v3), (4, .int t0)]) S [1, 2, 3, 4, 0] dX2_holds_10 (by decide) rfl ?_
  refine z_iconst (v := 0) S dX2_holds_12 (by decide) ?_
  refine z_istore (lv' := [(0, .ref (X.2.2 v0)), (1, .int v1), (2, .int v2), (3, .int v3), (4, .int t0), (5, .int 0)]) S [1, 2, 3, 4, 5, 0] dX2_holds_13 (by decide) rfl ?_
  refine z_iconst (v := 0) S dX2_holds_15 (by decide) ?_
  refine z_istore (lv' := [(0, .ref (X.2.2 v0)), (1, .int v1), (2, .int v2), (3, .int v3), (4, .int t0), (5, .int 0), (6, .int 0)]) S [1, 2, 3, 4, 5, 6, 0] dX2_holds_16 (by decide) rfl ?_
  refine z_iload_n S dX2_holds_18 rfl 2 rfl ?_
  refine z_istore (lv' := [(0, .ref (X.2.2 v0)), (1, .int v1), (3, .int v3), (4, .int t0), (5, .int 0), (6, .int 0), (7, .int v2)]) S [1, 2, 4, 5, 6, 7, 0] dX2_holds_19 (by decide) rfl ?_
  obtain ⟨e_3, hl, he⟩ := bnd he
  have hX : Z X 0 p l e rm_X2_holds s m args below meth c 0 0 (MQ below (QI X 0 (bI r) M s.heap.size) args s 0 0 (AA X 0 s.heap.size)) 10 M 217 [(4, .int e_3)] [] := by
    refine z_iload S dX2_holds_217 0 rfl ?_
    refine z_iconst (v := 1) S dX2_holds_219 (by decide) ?_
    refine z_iand S dX2_holds_220 ?_
    refine z_iconst (v := 1) S dX2_holds_221 (by decide) ?_
    refine z_icmp_ne (tgt := 229) S he dX2_holds_222 (by decide) (fun he => ?_) (fun he => ?_)
    · refine z_iconst (v := 0) S dX2_holds_229 (by decide) ?_
      exact z_zret0 S (⟨Option.some.inj he, rfl⟩) dX2_holds_230
    · refine z_iconst (v := 1) S dX2_holds_225 (by decide) ?_
      refine z_goto (tgt := 230) S dX2_holds_226 (by decide) ?_
      exact z_zret1 S (⟨Option.some.inj he, rfl⟩) dX2_holds_230
  have hZ9 := loopZ (f := (fun a_3 => f_X2_holds_L21 M v0 v1 v3 a_3.1 a_3.2.1 a_3.2.2.1 a_3.2.2.2)) (Zh := (fun a_3 => Z X 0 p l e rm_X2_holds s m args below meth c 0 0 (MQ below (QI X 0 (bI r) M s.heap.size) args s 0 0 (AA X 0 s.heap.size)) 10 M 21 [(0, .ref (X.2.2 v0)), (1, .int v1), (3, .int v3), (4, .int a_3.1), (5, .int a_3.2.1), (6, .int a_3.2.2.1), (7, .int a_3.2.2.2)] [])) (fun a_3 x hb hc hr => p_X2_holds_L21 S h_v0 hb hc (fun b hxe => by rw [hr b hxe]; exact hX)) FU (t0, 0, 0, v2) hl
  exact hZ9
set_option maxRecDepth 100000 in
set_option maxHeartbeats 4000000 in
theorem K_X2_holds {X : Cx} {l : Launch} {M : Mm} {a0 : Nat} {a1 : Int32} {a2 : Int32} {a3 : Int32} {r : Bool} (h_a0 : OK 0 a0 2) (he : f_X2_holds M a0 a1 a2 a3 = some r) : KI X 0 l yX2_holds (wz yX2_holds cX2_holds 10 (some .boolean)) rm_X2_holds [.ref (X.2.2 a0), .int a1, .int a2, .int a3] M (bI r) M := by
  intro sz
  refine K_of (Qc := (fun sz => QI X 0 (bI r) M sz)) (own := RX2) (lv0 := [(0, .ref (X.2.2 a0)), (1, .int a1), (2, .int a2), (3, .int a3)]) (by decide +kernel) rfl (Nat.le_of_ble_eq_true rfl) rfl (fun p e s m args below meth c S => ?_) sz
  · unfold f_X2_holds at he
    refine z_iload_n S dX2_holds_0 rfl 2 rfl ?_
    refine z_iload_n S dX2_holds_1 rfl 3 rfl ?_
    refine z_icmp_ge (tgt := 9) S he dX2_holds_2 (by decide) (fun he => ?_) (fun he => ?_)
    · refine z_iconst (v := 1) S dX2_holds_9 (by decide) ?_
      exact p_X2_holds_J10 S h_a0 he
    · refine z_iconst (v := 0) S dX2_holds_5 (by decide) ?_
      refine z_goto (tgt := 10) S dX2_holds_6 (by decide) ?_
      exact p_X2_holds_J10 S h_a0 he
set_option maxRecDepth 100000 in
set_option maxHeartbeats 4000000 in
theorem K_X4_ofVisitor {X : Cx} {l : Launch} {M : Mm} {a0 : Nat} {a1 : Int32} {a2 : Int32} {r : Int32} (h_a0 : OK 0 a0 4) (he : f_X4_ofVisitor M a0 a1 a2 = r) : KI X 0 l yX4_ofVisitor (wz yX4_ofVisitor cX4_ofVisitor 3 (some .int)) rm_X4_ofVisitor [.ref (X.2.2 a0), .int a1, .int a2] M r M := by
  intro sz
  refine K_of (Qc := (fun sz => QI X 0 r M sz)) (own := RX4) (lv0 := [(0, .ref (X.2.2 a0)), (1, .int a1), (2, .int a2)]) (by decide +kernel) rfl (Nat.le_of_ble_eq_true rfl) rfl (fun p e s m args below meth c S => ?_) sz
  · unfold f_X4_ofVisitor at he
    refine z_aload_n S dX4_ofVisitor_0 rfl 0 rfl ?_
    refine z_getF (j := (a0 + 2)) S fo_RX4_15 2 rfl rfl h_a0 dX4_ofVisitor_1 ?_
    refine z_iload_n S dX4_ofVisitor_4 rfl 1 rfl ?_
    refine z_iconst (v := 5) S dX4_ofVisitor_5 (by decide) ?_
    refine z_imul S dX4_ofVisitor_6 ?_
    refine z_iload_n S dX4_ofVisitor_7 rfl 2 rfl ?_
    refine z_iadd S dX4_ofVisitor_8 ?_
    refine z_cNI (As := [.ref (X.2.2 (a0 + 2)), .int ((a1 * 5) + a2)]) S cn_RX4_49 (Kt_X9_at (okf4_2 h_a0).1 rfl) ⟨rfl, rfl⟩ ⟨Nat.le_of_ble_eq_true rfl, Nat.le_of_ble_eq_true rfl⟩ ⟨Nat.le_refl _, Nat.le_refl _⟩ rfl rfl (Nat.le_of_ble_eq_true rfl) dX4_ofVisitor_9 ?_
    exact z_iret S (⟨he, rfl⟩) dX4_ofVisitor_12
set_option maxRecDepth 100000 in
set_option maxHeartbeats 4000000 in
theorem p_X2_weighs_J114_157 {X : Cx} {p : Program} {l : Launch} {e : Env} {s : State} {m : MethodId} {args : Array Value} {below : List Frame} {meth : Method} {c : Code} (S : SB X 0 p s m args meth c cX2_weighs 10 (some .int) RX2) {M : Mm} {N : Mm} {r : Int32} {v0 : Nat} {v2 : Int32} {v4 : Int32} {v5 : Int32} {v6 : Int32} {v7 : Int32} {v9 : Int32} {x : (Int32 × Int32 × Int32) ⊕ Int32} (h_v0 : OK 0 v0 2) (he : f_X2_weighs_J114_157 M v0 v2 v4 v5 v6 v7 v9 = some x) (hc : ∀ b, x = .inl b → Z X 0 p l e rm_X2_weighs s m args below meth c 0 0 (MQ below (QI X 0 r N s.heap.size) args s 0 0 (AA X 0 s.heap.size)) 10 M 114 [(0, .ref (X.2.2 v0)), (2, .int v2), (4, .int v4), (5, .int b.1), (6, .int b.2.1), (7, .int b.2.2)] []) (hx : ∀ b, x = .inr b → Z X 0 p l e rm_X2_weighs s m args below meth c 0 0 (MQ below (QI X 0 r N s.heap.size) args s 0 0 (AA X 0 s.heap.size)) 10 M 194 [(5, .int b)] []) : Z X 0 p l e rm_X2_weighs s m args below meth c 0 0 (MQ below (QI X 0 r N s.heap.size) args s 0 0 (AA X 0 s.heap.size)) 10 M 157 [(0, .ref (X.2.2 v0)), (2, .int v2), (4, .int v4), (5, .int v5), (6, .int v6), (7, .int v7), (9, .int v9)] [] := by
  unfold f_X2_weighs_J114_157 at he
  refine z_aload_n S dX2_weighs_157 rfl 0 rfl ?_
  refine z_iload S dX2_weighs_158 2 rfl ?_
  refine z_iload S dX2_weighs_160 4 rfl ?_
  refine z_iload S dX2_weighs_162 6 rfl ?_
  obtain ⟨r8, h9, he⟩ := bnd he
  refine z_cVI (As := [.int v4, .int v6, .int v9]) S cv_RX2_60 (K_X2_holds h_v0 h9) h_v0 (by decide) (q := (RX2, TX2, 7)) rfl rfl ⟨rfl, rfl⟩ ⟨Nat.le_of_ble_eq_true rfl, Nat.le_of_ble_eq_true rfl⟩ ⟨Nat.le_refl _, Nat.le_refl _⟩ rfl rfl (Nat.le_of_ble_eq_true rfl) dX2_weighs_164 ?_
  refine z_ifb_eq (tgt := 184) S he dX2_weighs_167 (by decide) (fun he => ?_) (fun he => ?_)
  · refine z_iload S dX2_weighs_184 6 rfl ?_
    refine z_istore (lv' := [(0, .ref (X.2.2 v0)), (2, .int v2), (4, .int v4), (5, .int v5), (6, .int v9), (7, .int v7)]) S [1, 2, 3, 4, 0, 5] dX2_weighs_186 (by decide) rfl ?_
    refine z_iinc (v := (v7 + 1)) (lv' := [(0, .ref (X.2.2 v0)), (2, .int v2), (4, .int v4), (5, .int v5), (6, .int v9), (7, .int (v7 + 1))]) S [1, 2, 3, 4, 5, 0] 5 dX2_weighs_188 rfl (by rfl) (by decide) rfl ?_
    refine z_goto (tgt := 114) S dX2_weighs_191 (by decide) ?_
    refine z_lv (ks := [0, 1, 2, 3, 4, 5]) rfl ?_
    exact hc _ (Option.some.inj he).symm
  · refine z_iload S dX2_weighs_170 3 rfl ?_
    refine z_aload_n S dX2_weighs_172 rfl 0 rfl ?_
    refine z_getF (j := (v0 + 1)) S fo_RX2_9 1 rfl rfl h_v0 dX2_weighs_173 ?_
    refine z_iload S dX2_weighs_176 5 rfl ?_
    refine z_cNI (As := [.ref (X.2.2 (v0 + 1)), .int v7]) S cn_RX2_56 (Kt_X9_at (okf2_1 h_v0).1 rfl) ⟨rfl, rfl⟩ ⟨Nat.le_of_ble_eq_true rfl, Nat.le_of_ble_eq_true rfl⟩ ⟨Nat.le_refl _, Nat.le_refl _⟩ rfl rfl (Nat.le_of_ble_eq_true rfl) dX2_weighs_178 ?_
    refine z_iadd S dX2_weighs_181 ?_
    obtain ⟨x9, ex9, he⟩ := bnd he
    rw [Option.some.inj ex9]
    refine z_istore (lv' := [(0, .ref (X.2.2 v0)), (2, .int v2), (4, .int v4), (5, .int x9), (7, .int v7), (9, .int v9)]) S [1, 2, 3, 0, 5, 6] dX2_weighs_182 (by decide) rfl ?_
    refine z_iload S dX2_weighs_184 5 rfl ?_
    refine z_istore (lv' := [(0, .ref (X.2.2 v0)), (2, .int v2), (4, .int v4), (5, .int x9), (6, .int v9), (7, .int v7)]) S [1, 2, 3, 4, 0, 5] dX2_weighs_186 (by decide) rfl ?_
    refine z_iinc (v := (v7 + 1)) (lv' := [(0, .ref (X.2.2 v0)), (2, .int v2), (4, .int v4), (5, .int x9), (6, .int v9), (7, .int (v7 + 1))]) S [1, 2, 3, 4, 5, 0] 5 dX2_weighs_188 rfl (by rfl) (by decide) rfl ?_
    refine z_goto (tgt := 114) S dX2_weighs_191 (by decide) ?_
    refine z_lv (ks := [0, 1, 2, 3, 4, 5]) rfl ?_
    exact hc _ (Option.some.inj he).symm
set_option maxRecDepth 100000 in
set_option maxHeartbeats 4000000 in
theorem p_X2_weighs_L114 {X : Cx} {p : Program} {l : Launch} {e : Env} {s : State} {m : MethodId} {args : Array Value} {below : List Frame} {meth : Method} {c : Code} (S : SB X 0 p s m args meth c cX2_weighs 10 (some .int) RX2) {M : Mm} {N : Mm} {r : Int32} {v0 : Nat} {v2 : Int32} {v4 : Int32} {v5 : Int32} {v6 : Int32} {v7 : Int32} {x : (Int32 × Int32 × Int32) ⊕ Int32} (h_v0 : OK 0 v0 2) (he : f_X2_weighs_L114 M v0 v2 v4 v5 v6 v7 = some x) (hc : ∀ b, x = .inl b → Z X 0 p l e rm_X2_weighs s m args below meth c 0 0 (MQ below (QI X 0 r N s.heap.size) args s 0 0 (AA X 0 s.heap.size)) 10 M 114 [(0, .ref (X.2.2 v0)), (2, .int v2), (4, .int v4), (5, .int b.1), (6, .int b.2.1), (7, .int b.2.2)] []) (hx : ∀ b, x = .inr b → Z X 0 p l e rm_X2_weighs s m args below meth c 0 0 (MQ below (QI X 0 r N s.heap.size) args s 0 0 (AA X 0 s.heap.size)) 10 M 194 [(5, .int b)] []) : Z X 0 p l e rm_X2_weighs s m args below meth c 0 0 (MQ below (QI X 0 r N s.heap.size) args s 0 0 (AA X 0 s.heap.size)) 10 M 114 [(0, .ref (X.2.2 v0)), (2, .int v2), (4, .int v4), (5, .int v5), (6, .int v6), (7, .int v7)] [] := by
  unfold f_X2_weighs_L114 at he
  refine z_iload S dX2_weighs_114 5 rfl ?_
  refine z_aload_n S dX2_weighs_116 rfl 0 rfl ?_
  refine z_getI S fo_RX2_27 rfl h_v0 dX2_weighs_117 ?_
  refine z_icmp_ge (tgt := 194) S he dX2_weighs_120 (by decide) (fun he => ?_) (fun he => ?_)
  · refine z_lv (ks := [3]) rfl ?_
    exact hx _ (Option.some.inj he).symm
  · refine z_aload_n S dX2_weighs_123 rfl 0 rfl ?_
    refine z_getF (j := (v0 + 2)) S fo_RX2_15 2 rfl rfl h_v0 dX2_weighs_124 ?_
    refine z_iload S dX2_weighs_127 5 rfl ?_
    refine z_cNI (As := [.ref (X.2.2 (v0 + 2)), .int v7]) S cn_RX2_56 (Kt_X9_at (okf2_2 h_v0).1 rfl) ⟨rfl, rfl⟩ ⟨Nat.le_of_ble_eq_true rfl, Nat.le_of_ble_eq_true rfl⟩ ⟨Nat.le_refl _, Nat.le_refl _⟩ rfl rfl (Nat.le_of_ble_eq_true rfl) dX2_weighs_129 ?_
    refine z_istore (lv' := [(0, .ref (X.2.2 v0)), (2, .int v2), (4, .int v4), (5, .int v5), (6, .int v6), (7, .int v7), (8, .int (t_X9_at M (v0 + 2) v7))]) S [1, 2, 3, 4, 5, 6, 0] dX2_weighs_132 (by decide) rfl ?_
    refine z_aload_n S dX2_weighs_134 rfl 0 rfl ?_
    refine z_getF (j := (v0 + 3)) S fo_RX2_18 3 rfl rfl h_v0 dX2_weighs_135 ?_
    refine z_iload S dX2_weighs_138 5 rfl ?_
    refine z_cNI (As := [.ref (X.2.2 (v0 + 3)), .int v7]) S cn_RX2_56 (Kt_X9_at (okf2_3 h_v0).1 rfl) ⟨rfl, rfl⟩ ⟨Nat.le_of_ble_eq_true rfl, Nat.le_of_ble_eq_true rfl⟩ ⟨Nat.le_refl _, Nat.le_refl _⟩ rfl rfl (Nat.le_of_ble_eq_true rfl) dX2_weighs_140 ?_
    refine z_istore (lv' := [(0, .ref (X.2.2 v0)), (2, .int v2), (4, .int v4), (5, .int v5), (6, .int v6), (7, .int v7), (8, .int (t_X9_at M (v0 + 2) v7)), (9, .int (t_X9_at M (v0 + 3) v7))]) S [1, 2, 3, 4, 5, 6, 7, 0] dX2_weighs_143 (by decide) rfl ?_
    refine z_iload S dX2_weighs_145 6 rfl ?_
    refine z_iconst (v := (-1)) S dX2_weighs_147 (by decide) ?_
    refine z_icmp_eq (tgt := 157) S he dX2_weighs_148 (by decide) (fun he => ?_) (fun he => ?_)
    · refine z_lv (ks := [0, 1, 2, 3, 4, 5, 7]) rfl ?_
      exact p_X2_weighs_J114_157 S h_v0 he hc hx
    · refine z_iload S dX2_weighs_151 6 rfl ?_
      refine z_iload_n S dX2_weighs_153 rfl 1 rfl ?_
      refine z_icmp_ne (tgt := 184) S he dX2_weighs_154 (by decide) (fun he => ?_) (fun he => ?_)
      · refine z_iload S dX2_weighs_184 7 rfl ?_
        refine z_istore (lv' := [(0, .ref (X.2.2 v0)), (2, .int v2), (4, .int v4), (5, .int v5), (6, .int (t_X9_at M (v0 + 3) v7)), (7, .int v7)]) S [1, 2, 3, 4, 0, 5] dX2_weighs_186 (by decide) rfl ?_
        refine z_iinc (v := (v7 + 1)) (lv' := [(0, .ref (X.2.2 v0)), (2, .int v2), (4, .int v4), (5, .int v5), (6, .int (t_X9_at M (v0 + 3) v7)), (7, .int (v7 + 1))]) S [1, 2, 3, 4, 5, 0] 5 dX2_weighs_188 rfl (by rfl) (by decide) rfl ?_
        refine z_goto (tgt := 114) S dX2_weighs_191 (by decide) ?_
        refine z_lv (ks := [0, 1, 2, 3, 4, 5]) rfl ?_
        exact hc _ (Option.some.inj he).symm
      · refine z_lv (ks := [0, 1, 2, 3, 4, 5, 7]) rfl ?_
        exact p_X2_weighs_J114_157 S h_v0 he hc hx
set_option maxRecDepth 100000 in
set_option maxHeartbeats 4000000 in
theorem K_X2_weighs {X : Cx} {l : Launch} {M : Mm} {a0 : Nat} {a1 : Nat} {a2 : Int32} {a3 : Int32} {r : Int32} {N : Mm} (h_a0 : OK 0 a0 2) (h_a1 : OK 0 a1 4) (he : f_X2_weighs M a0 a1 a2 a3 = some (r, N)) : KI X 0 l yX2_weighs (wz yX2_weighs cX2_weighs 10 (some .int)) rm_X2_weighs [.ref (X.2.2 a0), .ref (X.2.2 a1), .int a2, .int a3] M r N := by
  intro sz
  refine K_of (Qc := (fun sz => QI X 0 r N sz)) (own := RX2) (lv0 := [(0, .ref (X.2.2 a0)), (1, .ref (X.2.2 a1)), (2, .int a2), (3, .int a3)]) (by decide +kernel) rfl (Nat.le_of_ble_eq_true rfl) rfl (fun p e s m args below meth c S => ?_) sz
  · unfold f_X2_weighs at he
    refine z_aload_n S dX2_weighs_0 rfl 0 rfl ?_
    refine z_getI S fo_RX2_27 rfl h_a0 dX2_weighs_1 ?_
    refine z_iconst (v := (-1)) S dX2_weighs_4 (by decide) ?_
    refine z_icmp_ne (tgt := 15) S he dX2_weighs_5 (by decide) (fun he => ?_) (fun he => ?_)
    · refine z_aload_n S dX2_weighs_15 rfl 0 rfl ?_
      refine z_getF (j := (a0 + 5)) S fo_RX2_24 5 rfl rfl h_a0 dX2_weighs_16 ?_
      refine z_iconst (v := 0) S dX2_weighs_19 (by decide) ?_
      refine z_aload_n S dX2_weighs_20 rfl 1 rfl ?_
      refine z_iload_n S dX2_weighs_21 rfl 3 rfl ?_
      refine z_iconst (v := 0) S dX2_weighs_22 (by decide) ?_
      refine z_cVI (As := [.int a3, .int 0]) S cv_RX2_44 (K_X4_ofVisitor h_a1 rfl) h_a1 (by decide) (q := (RX4, TX4, 10)) rfl rfl ⟨rfl, rfl⟩ ⟨Nat.le_of_ble_eq_true rfl, Nat.le_of_ble_eq_true rfl⟩ ⟨Nat.le_refl _, Nat.le_refl _⟩ rfl rfl (Nat.le_of_ble_eq_true rfl) dX2_weighs_23 ?_
      obtain ⟨M1, h9, he⟩ := bnd he
      refine z_cNV (As := [.ref (X.2.2 (a0 + 5)), .int 0, .int (f_X4_ofVisitor M a1 a3 0)]) S cn_RX2_40 (Kt_X9_put (okf2_5 h_a0).1 (Option.some.inj h9)) ⟨rfl, rfl⟩ ⟨Nat.le_of_ble_eq_true rfl, Nat.le_of_ble_eq_true rfl⟩ ⟨Nat.le_refl _, Nat.le_refl _⟩ rfl rfl (Nat.le_of_ble_eq_true rfl) dX2_weighs_26 ?_
      refine z_aload_n S dX2_weighs_29 rfl 0 rfl ?_
      refine z_getF (j := (a0 + 5)) S fo_RX2_24 5 rfl rfl h_a0 dX2_weighs_30 ?_
      refine z_iconst (v := 1) S dX2_weighs_33 (by decide) ?_
      refine z_aload_n S dX2_weighs_34 rfl 1 rfl ?_
      refine z_iload_n S dX2_weighs_35 rfl 3 rfl ?_
      refine z_iconst (v := 1) S dX2_weighs_36 (by decide) ?_
      refine z_cVI (As := [.int a3, .int 1]) S cv_RX2_44 (K_X4_ofVisitor h_a1 rfl) h_a1 (by decide) (q := (RX4, TX4, 10)) rfl rfl ⟨rfl, rfl⟩ ⟨Nat.le_of_ble_eq_true rfl, Nat.le_of_ble_eq_true rfl⟩ ⟨Nat.le_refl _, Nat.le_refl _⟩ rfl rfl (Nat.le_of_ble_eq_true rfl) dX2_weighs_37 ?_
      obtain ⟨M2, h9, he⟩ := bnd he
      refine z_cNV (As := [.ref (X.2.2 (a0 + 5)), .int 1, .int (f_X4_ofVisitor M1 a1 a3 1)]) S cn_RX2_40 (Kt_X9_put (okf2_5 h_a0).1 (Option.some.inj h9)) ⟨rfl, rfl⟩ ⟨Nat.le_of_ble_eq_true rfl, Nat.le_of_ble_eq_true rfl⟩ ⟨Nat.le_refl _, Nat.le_refl _⟩ rfl rfl (Nat.le_of_ble_eq_true rfl) dX2_weighs_40 ?_
      refine z_aload_n S dX2_weighs_43 rfl 0 rfl ?_
      refine z_getF (j := (a0 + 5)) S fo_RX2_24 5 rfl rfl h_a0 dX2_weighs_44 ?_
      refine z_iconst (v := 2) S dX2_weighs_47 (by decide) ?_
      refine z_aload_n S dX2_weighs_48 rfl 1 rfl ?_
      refine z_iload_n S dX2_weighs_49 rfl 3 rfl ?_
      refine z_iconst (v := 2) S dX2_weighs_50 (by decide) ?_
      refine z_cVI (As := [.int a3, .int 2]) S cv_RX2_44 (K_X4_ofVisitor h_a1 rfl) h_a1 (by decide) (q := (RX4, TX4, 10)) rfl rfl ⟨rfl, rfl⟩ ⟨Nat.le_of_ble_eq_true rfl, Nat.le_of_ble_eq_true rfl⟩ ⟨Nat.le_refl _, Nat.le_refl _⟩ rfl rfl (Nat.le_of_ble_eq_true rfl) dX2_weighs_51 ?_
      obtain ⟨M3, h9, he⟩ := bnd he
      refine z_cNV (As := [.ref (X.2.2 (a0 + 5)), .int 2, .int (f_X4_ofVisitor M2 a1 a3 2)]) S cn_RX2_40 (Kt_X9_put (okf2_5 h_a0).1 (Option.some.inj h9)) ⟨rfl, rfl⟩ ⟨Nat.le_of_ble_eq_true rfl, Nat.le_of_ble_eq_true rfl⟩ ⟨Nat.le_refl _, Nat.le_refl _⟩ rfl rfl (Nat.le_of_ble_eq_true rfl) dX2_weighs_54 ?_
      refine z_aload_n S dX2_weighs_57 rfl 0 rfl ?_
      refine z_getF (j := (a0 + 5)) S fo_RX2_24 5 rfl rfl h_a0 dX2_weighs_58 ?_
      refine z_iconst (v := 3) S dX2_weighs_61 (by decide) ?_
      refine z_aload_n S dX2_weighs_62 rfl 1 rfl ?_
      refine z_iload_n S dX2_weighs_63 rfl 2 rfl ?_
      refine z_iconst (v := 0) S dX2_weighs_64 (by decide) ?_
      refine z_cVI (As := [.int a2, .int 0]) S cv_RX2_50 (K_X4_ofThing h_a1 rfl) h_a1 (by decide) (q := (RX4, TX4, 10)) rfl rfl ⟨rfl, rfl⟩ ⟨Nat.le_of_ble_eq_true rfl, Nat.le_of_ble_eq_true rfl⟩ ⟨Nat.le_refl _, Nat.le_refl _⟩ rfl rfl (Nat.le_of_ble_eq_true rfl) dX2_weighs_65 ?_
      obtain ⟨M4, h9, he⟩ := bnd he
      refine z_cNV (As := [.ref (X.2.2 (a0 + 5)), .int 3, .int (f_X4_ofThing M3 a1 a2 0)]) S cn_RX2_40 (Kt_X9_put (okf2_5 h_a0).1 (Option.some.inj h9)) ⟨rfl, rfl⟩ ⟨Nat.le_of_ble_eq_true rfl, Nat.le_of_ble_eq_true rfl⟩ ⟨Nat.le_refl _, Nat.le_refl _⟩ rfl rfl (Nat.le_of_ble_eq_true rfl) dX2_weighs_68 ?_
      refine z_aload_n S dX2_weighs_71 rfl 0 rfl ?_
      refine z_getF (j := (a0 + 5)) S fo_RX2_24 5 rfl rfl h_a0 dX2_weighs_72 ?_
      refine z_iconst (v := 4) S dX2_weighs_75 (by decide) ?_
      refine z_aload_n S dX2_weighs_76 rfl 1 rfl ?_
      refine z_iload_n S dX2_weighs_77 rfl 2 rfl ?_
      refine z_iconst (v := 4) S dX2_weighs_78 (by decide) ?_
      refine z_cVI (As := [.int a2, .int 4]) S cv_RX2_50 (K_X4_ofThing h_a1 rfl) h_a1 (by decide) (q := (RX4, TX4, 10)) rfl rfl ⟨rfl, rfl⟩ ⟨Nat.le_of_ble_eq_true rfl, Nat.le_of_ble_eq_true rfl⟩ ⟨Nat.le_refl _, Nat.le_refl _⟩ rfl rfl (Nat.le_of_ble_eq_true rfl) dX2_weighs_79 ?_
      obtain ⟨M5, h9, he⟩ := bnd he
      refine z_cNV (As := [.ref (X.2.2 (a0 + 5)), .int 4, .int (f_X4_ofThing M4 a1 a2 4)]) S cn_RX2_40 (Kt_X9_put (okf2_5 h_a0).1 (Option.some.inj h9)) ⟨rfl, rfl⟩ ⟨Nat.le_of_ble_eq_true rfl, Nat.le_of_ble_eq_true rfl⟩ ⟨Nat.le_refl _, Nat.le_refl _⟩ rfl rfl (Nat.le_of_ble_eq_true rfl) dX2_weighs_82 ?_
      refine z_aload_n S dX2_weighs_85 rfl 0 rfl ?_
      refine z_getF (j := (a0 + 5)) S fo_RX2_24 5 rfl rfl h_a0 dX2_weighs_86 ?_
      refine z_iconst (v := 5) S dX2_weighs_89 (by decide) ?_
      refine z_aload_n S dX2_weighs_90 rfl 1 rfl ?_
      refine z_getI S fo_RX2_53 rfl h_a1 dX2_weighs_91 ?_
      obtain ⟨M6, h9, he⟩ := bnd he
      refine z_cNV (As := [.ref (X.2.2 (a0 + 5)), .int 5, .int (gI M5 a1 7)]) S cn_RX2_40 (Kt_X9_put (okf2_5 h_a0).1 (Option.some.inj h9)) ⟨rfl, rfl⟩ ⟨Nat.le_of_ble_eq_true rfl, Nat.le_of_ble_eq_true rfl⟩ ⟨Nat.le_refl _, Nat.le_refl _⟩ rfl rfl (Nat.le_of_ble_eq_true rfl) dX2_weighs_94 ?_
      refine z_aload_n S dX2_weighs_97 rfl 1 rfl ?_
      refine z_iload_n S dX2_weighs_98 rfl 3 rfl ?_
      refine z_iconst (v := 4) S dX2_weighs_99 (by decide) ?_
      refine z_cVI (As := [.int a3, .int 4]) S cv_RX2_44 (K_X4_ofVisitor h_a1 rfl) h_a1 (by decide) (q := (RX4, TX4, 10)) rfl rfl ⟨rfl, rfl⟩ ⟨Nat.le_of_ble_eq_true rfl, Nat.le_of_ble_eq_true rfl⟩ ⟨Nat.le_refl _, Nat.le_refl _⟩ rfl rfl (Nat.le_of_ble_eq_true rfl) dX2_weighs_100 ?_
      obtain ⟨x7, ex7, he⟩ := bnd he
      rw [Option.some.inj ex7]
      refine z_istore (lv' := [(0, .ref (X.2.2 a0)), (2, .int a2), (4, .int x7)]) S [1, 3, 0] dX2_weighs_103 (by decide) rfl ?_
      refine z_iconst (v := 0) S dX2_weighs_105 (by decide) ?_
      refine z_istore (lv' := [(0, .ref (X.2.2 a0)), (2, .int a2), (4, .int x7), (5, .int 0)]) S [1, 2, 3, 0] dX2_weighs_106 (by decide) rfl ?_
      refine z_iconst (v := 0) S dX2_weighs_108 (by decide) ?_
      refine z_istore (lv' := [(0, .ref (X.2.2 a0)), (2, .int a2), (4, .int x7), (5, .int 0), (6, .int 0)]) S [1, 2, 3, 4, 0] dX2_weighs_109 (by decide) rfl ?_
      refine z_iconst (v := 0) S dX2_weighs_111 (by decide) ?_
      refine z_istore (lv' := [(0, .ref (X.2.2 a0)), (2, .int a2), (4, .int x7), (5, .int 0), (6, .int 0), (7, .int 0)]) S [1, 2, 3, 4, 5, 0] dX2_weighs_112 (by decide) rfl ?_
      obtain ⟨e_10, hl, he⟩ := bnd he
      have hX : Z X 0 p l e rm_X2_weighs s m args below meth c 0 0 (MQ below (QI X 0 r N s.heap.size) args s 0 0 (AA X 0 s.heap.size)) 10 M6 194 [(5, .int e_10)] [] := by
        refine z_iload S dX2_weighs_194 0 rfl ?_
        refine z_iconst (v := 0) S dX2_weighs_196 (by decide) ?_
        refine z_mmax S cm_RX2_64 (Nat.le_of_ble_eq_true rfl) (Nat.le_of_ble_eq_true rfl) ⟨Nat.le_refl _, Nat.le_refl _⟩ dX2_weighs_197 ?_
        exact z_iret S (Prod.mk.inj (Option.some.inj he)) dX2_weighs_200
      have hZ9 := loopZ (f := (fun a_10 => f_X2_weighs_L114 M6 a0 a2 x7 a_10.1 a_10.2.1 a_10.2.2)) (Zh := (fun a_10 => Z X 0 p l e rm_X2_weighs s m args below meth c 0 0 (MQ below (QI X 0 r N s.heap.size) args s 0 0 (AA X 0 s.heap.size)) 10 M6 114 [(0, .ref (X.2.2 a0)), (2, .int a2), (4, .int x7), (5, .int a_10.1), (6, .int a_10.2.1), (7, .int a_10.2.2)] [])) (fun a_10 x hb hc hr => p_X2_weighs_L114 S h_a0 hb hc (fun b hxe => by rw [hr b hxe]; exact hX)) FU (0, 0, 0) hl
      exact hZ9
    · refine z_aload_n S dX2_weighs_8 rfl 1 rfl ?_
      refine z_iload_n S dX2_weighs_9 rfl 3 rfl ?_
      refine z_iconst (v := 1) S dX2_weighs_10 (by decide) ?_
      refine z_cVI (As := [.int a3, .int 1]) S cv_RX2_44 (K_X4_ofVisitor h_a1 rfl) h_a1 (by decide) (q := (RX4, TX4, 10)) rfl rfl ⟨rfl, rfl⟩ ⟨Nat.le_of_ble_eq_true rfl, Nat.le_of_ble_eq_true rfl⟩ ⟨Nat.le_refl _, Nat.le_refl _⟩ rfl rfl (Nat.le_of_ble_eq_true rfl) dX2_weighs_11 ?_
      exact z_iret S (Prod.mk.inj (Option.some.inj he)) dX2_weighs_14
set_option maxRecDepth 100000 in
set_option maxHeartbeats 4000000 in
theorem K_X3_leaveOpen {X : Cx} {l : Launch} {M : Mm} {a1 : Int32} {N : Mm}  (he : f_X3_leaveOpen M a1 = some N) : KV X 0 l yX3_leaveOpen (wz yX3_leaveOpen cX3_leaveOpen 2 none) rm_X3_leaveOpen [.ref (X.2.2 102), .int a1] M N := by
  intro sz
  refine K_of (Qc := (fun sz => QV X 0 N sz)) (own := RX3) (lv0 := [(0, .ref (X.2.2 102)), (1, .int a1)]) (by decide +kernel) rfl (Nat.le_of_ble_eq_true rfl) rfl (fun p e s m args below meth c S => ?_) sz
  · unfold f_X3_leaveOpen at he
    refine z_aload_n S dX3_leaveOpen_0 rfl 0 rfl ?_
    refine z_getF (j := 103) S fo_RX3_20 1 rfl rfl ok_102 dX3_leaveOpen_1 ?_
    refine z_aload_n S dX3_leaveOpen_4 rfl 0 rfl ?_
    refine z_getI S fo_RX3_80 rfl ok_102 dX3_leaveOpen_5 ?_
    refine z_iload_n S dX3_leaveOpen_8 rfl 1 rfl ?_
    obtain ⟨M1, h9, he⟩ := bnd he
    refine z_cNV (As := [.ref (X.2.2 103), .int (gI M 102 2), .int a1]) S cn_RX3_120 (Kt_X9_put ok_103 (Option.some.inj h9)) ⟨rfl, rfl⟩ ⟨Nat.le_of_ble_eq_true rfl, Nat.le_of_ble_eq_true rfl⟩ ⟨Nat.le_refl _, Nat.le_refl _⟩ rfl rfl (Nat.le_of_ble_eq_true rfl) dX3_leaveOpen_9 ?_
    refine z_aload_n S dX3_leaveOpen_12 rfl 0 rfl ?_
    refine z_dup S rfl dX3_leaveOpen_13 ?_
    refine z_getI S fo_RX3_80 rfl ok_102 dX3_leaveOpen_14 ?_
    refine z_iconst (v := 1) S dX3_leaveOpen_17 (by decide) ?_
    refine z_iadd S dX3_leaveOpen_18 ?_
    refine z_putIb S fo_RX3_80p rfl ok_102 rfl rfl he dX3_leaveOpen_19 (fun M2 he => ?_)
    exact z_vret S (Option.some.inj he) dX3_leaveOpen_22
set_option maxRecDepth 100000 in
set_option maxHeartbeats 4000000 in
theorem p_X3_readSum_J2_44 {X : Cx} {p : Program} {l : Launch} {e : Env} {s : State} {m : MethodId} {args : Array Value} {below : List Frame} {meth : Method} {c : Code} (S : SB X 0 p s m args meth c cX3_readSum 5 (some .boolean) RX3) {M : Mm} {N : Mm} {r : Bool} {v1 : Nat} {v2 : Int32} {t0 : Int32} {x : (Mm × Int32) ⊕ ((Bool × Mm) ⊕ Mm)} (h_v1 : OK 0 v1 2) (he : f_X3_readSum_J2_44 M v1 v2 t0 = some x) (hc : ∀ b, x = .inl b → Z X 0 p l e rm_X3_readSum s m args below meth c 0 0 (MQ below (QI X 0 (bI r) N s.heap.size) args s 0 0 (AA X 0 s.heap.size)) 5 b.1 2 [(0, .ref (X.2.2 102)), (1, .ref (X.2.2 v1)), (2, .int b.2)] []) (hx : ∀ b, x = .inr (.inr b) → Z X 0 p l e rm_X3_readSum s m args below meth c 0 0 (MQ below (QI X 0 (bI r) N s.heap.size) args s 0 0 (AA X 0 s.heap.size)) 5 b 94 [(0, .ref (X.2.2 102))] []) (hr : ∀ v, x = .inr (.inl v) → v = (r, N)) : Z X 0 p l e rm_X3_readSum s m args below meth c 0 0 (MQ below (QI X 0 (bI r) N s.heap.size) args s 0 0 (AA X 0 s.heap.size)) 5 M 44 [(0, .ref (X.2.2 102)), (1, .ref (X.2.2 v1)), (2, .int v2)] [.int t0] := by
  unfold f_X3_readSum_J2_44 at he
  refine z_istore (lv' := [(0, .ref (X.2.2 102)), (1, .ref (X.2.2 v1)), (2, .int v2), (4, .int t0)]) S [1, 2, 3, 0] dX3_readSum_44 (by decide) rfl ?_
  refine z_iload S dX3_readSum_46 3 rfl ?_
  refine z_iconst (v := (-1)) S dX3_readSum_48 (by decide) ?_
  refine z_icmp_ne (tgt := 60) S he dX3_readSum_49 (by decide) (fun he => ?_) (fun he => ?_)
  · refine z_aload_n S dX3_readSum_60 rfl 1 rfl ?_
    refine z_iload S dX3_readSum_61 3 rfl ?_
    obtain ⟨M2, h9, he⟩ := bnd he
    refine z_cVV (As := [.int t0]) S cv_RX3_128 (K_X2_addOperation h_v1 h9) h_v1 (by decide) (q := (RX2, TX2, 7)) rfl rfl ⟨rfl, rfl⟩ ⟨Nat.le_of_ble_eq_true rfl, Nat.le_of_ble_eq_true rfl⟩ ⟨Nat.le_refl _, Nat.le_refl _⟩ rfl rfl (Nat.le_of_ble_eq_true rfl) dX3_readSum_63 ?_
    refine z_aload_n S dX3_readSum_66 rfl 0 rfl ?_
    refine z_getF (j := 104) S fo_RX3_14 2 rfl rfl ok_102 dX3_readSum_67 ?_
    obtain ⟨M3, h9, he⟩ := bnd he
    refine z_cVV (As := []) S cv_RX3_67 (K_X7_next ok_104 h9) ok_104 (by decide) (q := (RX7, TX7, 9)) rfl rfl ⟨rfl, rfl⟩ ⟨Nat.le_of_ble_eq_true rfl, Nat.le_of_ble_eq_true rfl⟩ ⟨Nat.le_refl _, Nat.le_refl _⟩ rfl rfl (Nat.le_of_ble_eq_true rfl) dX3_readSum_70 ?_
    refine z_aload_n S dX3_readSum_73 rfl 0 rfl ?_
    refine z_getF (j := 104) S fo_RX3_14 2 rfl rfl ok_102 dX3_readSum_74 ?_
    refine z_getW (i := 27) (j := 327) S (by decide) rfl rfl gw_RX3_156 dX3_readSum_77 ?_
    obtain ⟨⟨r4, M5⟩, h9, he⟩ := bnd he
    dsimp only at he
    refine z_cVI (As := [.ref (X.2.2 327)]) S cv_RX3_46 (K_X7_skip ok_104 (isW_add (i := 27) (by decide)) h9) ok_104 (by decide) (q := (RX7, TX7, 9)) rfl rfl ⟨rfl, rfl⟩ ⟨Nat.le_of_ble_eq_true rfl, Nat.le_of_ble_eq_true rfl⟩ ⟨Nat.le_refl _, Nat.le_refl _⟩ rfl rfl (Nat.le_of_ble_eq_true rfl) dX3_readSum_80 ?_
    refine z_ifb_ne (tgt := 88) S he dX3_readSum_83 (by decide) (fun he => ?_) (fun he => ?_)
    · refine z_iinc (v := (v2 + 1)) (lv' := [(0, .ref (X.2.2 102)), (1, .ref (X.2.2 v1)), (2, .int (v2 + 1)), (4, .int t0)]) S [1, 2, 0, 3] 2 dX3_readSum_88 rfl (by rfl) (by decide) rfl ?_
      refine z_goto (tgt := 2) S dX3_readSum_91 (by decide) ?_
      refine z_lv (ks := [0, 1, 2]) rfl ?_
      exact hc _ (Option.some.inj he).symm
    · refine z_iconst (v := 1) S dX3_readSum_86 (by decide) ?_
      exact z_zret1 S (Prod.mk.inj (hr _ (Option.some.inj he).symm)) dX3_readSum_87
  · refine z_aload_n S dX3_readSum_52 rfl 0 rfl ?_
    refine z_getF (j := 104) S fo_RX3_14 2 rfl rfl ok_102 dX3_readSum_53 ?_
    obtain ⟨⟨r6, M7⟩, h9, he⟩ := bnd he
    dsimp only at he
    refine z_cVI (As := []) S cv_RX3_50 (K_X7_refuse ok_104 (Option.some.inj h9)) ok_104 (by decide) (q := (RX7, TX7, 9)) rfl rfl ⟨rfl, rfl⟩ ⟨Nat.le_of_ble_eq_true rfl, Nat.le_of_ble_eq_true rfl⟩ ⟨Nat.le_refl _, Nat.le_refl _⟩ rfl rfl (Nat.le_of_ble_eq_true rfl) dX3_readSum_56 ?_
    exact z_zret S (Prod.mk.inj (hr _ (Option.some.inj he).symm)) dX3_readSum_59
set_option maxRecDepth 100000 in
set_option maxHeartbeats 4000000 in
theorem p_X3_readSum_L2 {X : Cx} {p : Program} {l : Launch} {e : Env} {s : State} {m : MethodId} {args : Array Value} {below : List Frame} {meth : Method} {c : Code} (S : SB X 0 p s m args meth c cX3_readSum 5 (some .boolean) RX3) {M : Mm} {N : Mm} {r : Bool} {v1 : Nat} {v2 : Int32} {x : (Mm × Int32) ⊕ ((Bool × Mm) ⊕ Mm)} (h_v1 : OK 0 v1 2) (he : f_X3_readSum_L2 M v1 v2 = some x) (hc : ∀ b, x = .inl b → Z X 0 p l e rm_X3_readSum s m args below meth c 0 0 (MQ below (QI X 0 (bI r) N s.heap.size) args s 0 0 (AA X 0 s.heap.size)) 5 b.1 2 [(0, .ref (X.2.2 102)), (1, .ref (X.2.2 v1)), (2, .int b.2)] []) (hx : ∀ b, x = .inr (.inr b) → Z X 0 p l e rm_X3_readSum s m args below meth c 0 0 (MQ below (QI X 0 (bI r) N s.heap.size) args s 0 0 (AA X 0 s.heap.size)) 5 b 94 [(0, .ref (X.2.2 102))] []) (hr : ∀ v, x = .inr (.inl v) → v = (r, N)) : Z X 0 p l e rm_X3_readSum s m args below meth c 0 0 (MQ below (QI X 0 (bI r) N s.heap.size) args s 0 0 (AA X 0 s.heap.size)) 5 M 2 [(0, .ref (X.2.2 102)), (1, .ref (X.2.2 v1)), (2, .int v2)] [] := by
  unfold f_X3_readSum_L2 at he
  refine z_iload_n S dX3_readSum_2 rfl 2 rfl ?_
  refine z_sipush (v := 400) S dX3_readSum_3 (by decide) ?_
  refine z_icmp_ge (tgt := 94) S he dX3_readSum_6 (by decide) (fun he => ?_) (fun he => ?_)
  · refine z_lv (ks := [0]) rfl ?_
    exact hx _ (Option.some.inj he).symm
  · refine z_aload_n S dX3_readSum_9 rfl 0 rfl ?_
    refine z_getF (j := 104) S fo_RX3_14 2 rfl rfl ok_102 dX3_readSum_10 ?_
    refine z_getWd S fo_RX3_30 rfl ok_104 he dX3_readSum_13 (fun q1 hq1 he => ?_)
    refine z_part S hq1 gs_RX3_153 dX3_readSum_16 ?_
    refine z_istore_n (lv' := [(0, .ref (X.2.2 102)), (1, .ref (X.2.2 v1)), (2, .int v2), (3, .int (ptq q1))]) S [1, 2, 3, 0] dX3_readSum_19 rfl (by decide) rfl ?_
    refine z_iload_n S dX3_readSum_20 rfl 3 rfl ?_
    refine z_iconst (v := (-1)) S dX3_readSum_21 (by decide) ?_
    refine z_icmp_ne (tgt := 39) S he dX3_readSum_22 (by decide) (fun he => ?_) (fun he => ?_)
    · refine z_sipush (v := 1000) S dX3_readSum_39 (by decide) ?_
      refine z_iload_n S dX3_readSum_42 rfl 3 rfl ?_
      refine z_iadd S dX3_readSum_43 ?_
      refine z_lv (ks := [0, 1, 2]) rfl ?_
      exact p_X3_readSum_J2_44 S h_v1 he hc hx hr
    · refine z_aload_n S dX3_readSum_25 rfl 0 rfl ?_
      refine z_getF (j := 104) S fo_RX3_14 2 rfl rfl ok_102 dX3_readSum_26 ?_
      refine z_iconst (v := 0) S dX3_readSum_29 (by decide) ?_
      refine z_sipush (v := 999) S dX3_readSum_30 (by decide) ?_
      obtain ⟨r8, h9, he⟩ := bnd he
      refine z_cVI (As := [.int 0, .int 999]) S cv_RX3_60 (K_X7_numberWithin ok_104 h9) ok_104 (by decide) (q := (RX7, TX7, 9)) rfl rfl ⟨rfl, rfl⟩ ⟨Nat.le_of_ble_eq_true rfl, Nat.le_of_ble_eq_true rfl⟩ ⟨Nat.le_refl _, Nat.le_refl _⟩ rfl rfl (Nat.le_of_ble_eq_true rfl) dX3_readSum_33 ?_
      refine z_goto (tgt := 44) S dX3_readSum_36 (by decide) ?_
      refine z_lv (ks := [0, 1, 2]) rfl ?_
      exact p_X3_readSum_J2_44 S h_v1 he hc hx hr
set_option maxRecDepth 100000 in
set_option maxHeartbeats 4000000 in
theorem K_X3_readSum {X : Cx} {l : Launch} {M : Mm} {a1 : Nat} {r : Bool} {N : Mm} (h_a1 : OK 0 a1 2) (he : f_X3_readSum M a1 = some (r, N)) : KI X 0 l yX3_readSum (wz yX3_readSum cX3_readSum 5 (some .boolean)) rm_X3_readSum [.ref (X.2.2 102), .ref (X.2.2 a1)] M (bI r) N := by
  intro sz
  refine K_of (Qc := (fun sz => QI X 0 (bI r) N sz)) (own := RX3) (lv0 := [(0, .ref (X.2.2 102)), (1, .ref (X.2.2 a1))]) (by decide +kernel) rfl (Nat.le_of_ble_eq_true rfl) rfl (fun p e s m args below meth c S => ?_) sz
  · unfold f_X3_readSum at he
    refine z_iconst (v := 0) S dX3_readSum_0 (by decide) ?_
    refine z_istore_n (lv' := [(0, .ref (X.2.2 102)), (1, .ref (X.2.2 a1)), (2, .int 0)]) S [1, 2, 0] dX3_readSum_1 rfl (by decide) rfl ?_
    obtain ⟨r9, hl, hr1, hr2⟩ := bndS he
    have hX : ∀ e_9, r9 = .inr e_9 → Z X 0 p l e rm_X3_readSum s m args below meth c 0 0 (MQ below (QI X 0 (bI r) N s.heap.size) args s 0 0 (AA X 0 s.heap.size)) 5 e_9 94 [(0, .ref (X.2.2 102))] [] := by
      intro e_9 hre
      have he := hr2 e_9 hre
      refine z_aload_n S dX3_readSum_94 rfl 0 rfl ?_
      refine z_getF (j := 104) S fo_RX3_14 2 rfl rfl ok_102 dX3_readSum_95 ?_
      obtain ⟨⟨r10, M11⟩, h9, he⟩ := bnd he
      dsimp only at he
      refine z_cVI (As := []) S cv_RX3_50 (K_X7_refuse ok_104 (Option.some.inj h9)) ok_104 (by decide) (q := (RX7, TX7, 9)) rfl rfl ⟨rfl, rfl⟩ ⟨Nat.le_of_ble_eq_true rfl, Nat.le_of_ble_eq_true rfl⟩ ⟨Nat.le_refl _, Nat.le_refl _⟩ rfl rfl (Nat.le_of_ble_eq_true rfl) dX3_readSum_98 ?_
      exact z_zret S (Prod.mk.inj (Option.some.inj he)) dX3_readSum_101
    have hZ9 := loopZ (f := (fun a_9 => f_X3_readSum_L2 a_9.1 a1 a_9.2)) (Zh := (fun a_9 => Z X 0 p l e rm_X3_readSum s m args below meth c 0 0 (MQ below (QI X 0 (bI r) N s.heap.size) args s 0 0 (AA X 0 s.heap.size)) 5 a_9.1 2 [(0, .ref (X.2.2 102)), (1, .ref (X.2.2 a1)), (2, .int a_9.2)] [])) (fun a_9 x hb hc hr9 => p_X3_readSum_L2 S h_a1 hb hc (fun b hxe => hX b (hr9 _ hxe).symm) (fun v hxv => Option.some.inj (hr1 v (hr9 _ hxv).symm))) FU (M, 0) hl
    exact hZ9
set_option maxRecDepth 100000 in
set_option maxHeartbeats 4000000 in
theorem p_X3_readAtom_J119 {X : Cx} {p : Program} {l : Launch} {e : Env} {s : State} {m : MethodId} {args : Array Value} {below : List Frame} {meth : Method} {c : Code} (S : SB X 0 p s m args meth c cX3_readAtom 4 (some .boolean) RX3) {M : Mm} {N : Mm} {r : Bool} {t0 : Int32} {t1 : Nat} (h_t1 : OK 0 t1 2) (he : f_X3_readAtom_J119 M t0 t1 = some (r, N)) : Z X 0 p l e rm_X3_readAtom s m args below meth c 0 0 (MQ below (QI X 0 (bI r) N s.heap.size) args s 0 0 (AA X 0 s.heap.size)) 4 M 119 [] [.int t0, .ref (X.2.2 t1)] := by
  unfold f_X3_readAtom_J119 at he
  obtain ⟨M9, h9, he⟩ := bnd he
  refine z_cVV (As := [.int t0]) S cv_RX3_128 (K_X2_addOperation h_t1 h9) h_t1 (by decide) (q := (RX2, TX2, 7)) rfl rfl ⟨rfl, rfl⟩ ⟨Nat.le_of_ble_eq_true rfl, Nat.le_of_ble_eq_true rfl⟩ ⟨Nat.le_refl _, Nat.le_refl _⟩ rfl rfl (Nat.le_of_ble_eq_true rfl) dX3_readAtom_119 ?_
  refine z_iconst (v := 1) S dX3_readAtom_122 (by decide) ?_
  exact z_zret1 S (Prod.mk.inj (Option.some.inj he)) dX3_readAtom_123
set_option maxRecDepth 100000 in
set_option maxHeartbeats 4000000 in
theorem p_X3_readAtom_J88 {X : Cx} {p : Program} {l : Launch} {e : Env} {s : State} {m : MethodId} {args : Array Value} {below : List Frame} {meth : Method} {c : Code} (S : SB X 0 p s m args meth c cX3_readAtom 4 (some .boolean) RX3) {M : Mm} {N : Mm} {r : Bool} {v1 : Nat} {v3 : Int32} (h_v1 : OK 0 v1 2) (he : f_X3_readAtom_J88 M v1 v3 = some (r, N)) : Z X 0 p l e rm_X3_readAtom s m args below meth c 0 0 (MQ below (QI X 0 (bI r) N s.heap.size) args s 0 0 (AA X 0 s.heap.size)) 4 M 88 [(0, .ref (X.2.2 102)), (1, .ref (X.2.2 v1)), (3, .int v3)] [] := by
  unfold f_X3_readAtom_J88 at he
  refine z_aload_n S dX3_readAtom_88 rfl 1 rfl ?_
  refine z_sipush (v := 1020) S dX3_readAtom_89 (by decide) ?_
  obtain ⟨M6, h9, he⟩ := bnd he
  refine z_cVV (As := [.int 1020]) S cv_RX3_128 (K_X2_addOperation h_v1 h9) h_v1 (by decide) (q := (RX2, TX2, 7)) rfl rfl ⟨rfl, rfl⟩ ⟨Nat.le_of_ble_eq_true rfl, Nat.le_of_ble_eq_true rfl⟩ ⟨Nat.le_refl _, Nat.le_refl _⟩ rfl rfl (Nat.le_of_ble_eq_true rfl) dX3_readAtom_92 ?_
  refine z_aload_n S dX3_readAtom_95 rfl 0 rfl ?_
  refine z_aload_n S dX3_readAtom_96 rfl 1 rfl ?_
  obtain ⟨⟨r7, M8⟩, h9, he⟩ := bnd he
  dsimp only at he
  refine z_cVI (As := [.ref (X.2.2 v1)]) S cv_RX3_144 (K_X3_readSum h_v1 h9) ok_102 (by decide) (q := (RX3, TX3, 4)) rfl rfl ⟨rfl, rfl⟩ ⟨Nat.le_of_ble_eq_true rfl, Nat.le_of_ble_eq_true rfl⟩ ⟨Nat.le_refl _, Nat.le_refl _⟩ rfl rfl (Nat.le_of_ble_eq_true rfl) dX3_readAtom_97 ?_
  refine z_ifb_ne (tgt := 105) S he dX3_readAtom_100 (by decide) (fun he => ?_) (fun he => ?_)
  · refine z_aload_n S dX3_readAtom_105 rfl 1 rfl ?_
    refine z_iload_n S dX3_readAtom_106 rfl 2 rfl ?_
    refine z_if_eq (tgt := 116) S he dX3_readAtom_107 (by decide) (fun he => ?_) (fun he => ?_)
    · refine z_sipush (v := 1022) S dX3_readAtom_116 (by decide) ?_
      refine z_lv (ks := []) rfl ?_
      exact p_X3_readAtom_J119 S h_v1 he
    · refine z_sipush (v := 1021) S dX3_readAtom_110 (by decide) ?_
      refine z_goto (tgt := 119) S dX3_readAtom_113 (by decide) ?_
      refine z_lv (ks := []) rfl ?_
      exact p_X3_readAtom_J119 S h_v1 he
  · refine z_iconst (v := 0) S dX3_readAtom_103 (by decide) ?_
    exact z_zret0 S (Prod.mk.inj (Option.some.inj he)) dX3_readAtom_104
set_option maxRecDepth 100000 in
set_option maxHeartbeats 4000000 in
theorem p_X3_readAtom_J42 {X : Cx} {p : Program} {l : Launch} {e : Env} {s : State} {m : MethodId} {args : Array Value} {below : List Frame} {meth : Method} {c : Code} (S : SB X 0 p s m args meth c cX3_readAtom 4 (some .boolean) RX3) {M : Mm} {N : Mm} {r : Bool} {v1 : Nat} (h_v1 : OK 0 v1 2) (he : f_X3_readAtom_J42 M v1 = some (r, N)) : Z X 0 p l e rm_X3_readAtom s m args below meth c 0 0 (MQ below (QI X 0 (bI r) N s.heap.size) args s 0 0 (AA X 0 s.heap.size)) 4 M 42 [(0, .ref (X.2.2 102)), (1, .ref (X.2.2 v1))] [] := by
  unfold f_X3_readAtom_J42 at he
  refine z_aload_n S dX3_readAtom_42 rfl 0 rfl ?_
  refine z_aload_n S dX3_readAtom_43 rfl 1 rfl ?_
  obtain ⟨⟨r2, M3⟩, h9, he⟩ := bnd he
  dsimp only at he
  refine z_cVI (As := [.ref (X.2.2 v1)]) S cv_RX3_144 (K_X3_readSum h_v1 h9) ok_102 (by decide) (q := (RX3, TX3, 4)) rfl rfl ⟨rfl, rfl⟩ ⟨Nat.le_of_ble_eq_true rfl, Nat.le_of_ble_eq_true rfl⟩ ⟨Nat.le_refl _, Nat.le_refl _⟩ rfl rfl (Nat.le_of_ble_eq_true rfl) dX3_readAtom_44 ?_
  refine z_ifb_ne (tgt := 52) S he dX3_readAtom_47 (by decide) (fun he => ?_) (fun he => ?_)
  · refine z_aload_n S dX3_readAtom_52 rfl 0 rfl ?_
    refine z_getF (j := 104) S fo_RX3_14 2 rfl rfl ok_102 dX3_readAtom_53 ?_
    refine z_getW (i := 25) (j := 325) S (by decide) rfl rfl gw_RX3_147 dX3_readAtom_56 ?_
    obtain ⟨⟨r4, M5⟩, h9, he⟩ := bnd he
    dsimp only at he
    refine z_cVI (As := [.ref (X.2.2 325)]) S cv_RX3_46 (K_X7_skip ok_104 (isW_add (i := 25) (by decide)) h9) ok_104 (by decide) (q := (RX7, TX7, 9)) rfl rfl ⟨rfl, rfl⟩ ⟨Nat.le_of_ble_eq_true rfl, Nat.le_of_ble_eq_true rfl⟩ ⟨Nat.le_refl _, Nat.le_refl _⟩ rfl rfl (Nat.le_of_ble_eq_true rfl) dX3_readAtom_59 ?_
    refine z_istore_n (lv' := [(0, .ref (X.2.2 102)), (1, .ref (X.2.2 v1)), (3, .int (bI r4))]) S [1, 2, 0] dX3_readAtom_62 rfl (by decide) rfl ?_
    refine z_iload_n S dX3_readAtom_63 rfl 2 rfl ?_
    refine z_ifb_ne (tgt := 88) S he dX3_readAtom_64 (by decide) (fun he => ?_) (fun he => ?_)
    · exact p_X3_readAtom_J88 S h_v1 he
    · refine z_aload_n S dX3_readAtom_67 rfl 0 rfl ?_
      refine z_getF (j := 104) S fo_RX3_14 2 rfl rfl ok_102 dX3_readAtom_68 ?_
      refine z_getW (i := 26) (j := 326) S (by decide) rfl rfl gw_RX3_150 dX3_readAtom_71 ?_
      obtain ⟨⟨r10, M11⟩, h9, he⟩ := bnd he
      dsimp only at he
      refine z_cVI (As := [.ref (X.2.2 326)]) S cv_RX3_46 (K_X7_skip ok_104 (isW_add (i := 26) (by decide)) h9) ok_104 (by decide) (q := (RX7, TX7, 9)) rfl rfl ⟨rfl, rfl⟩ ⟨Nat.le_of_ble_eq_true rfl, Nat.le_of_ble_eq_true rfl⟩ ⟨Nat.le_refl _, Nat.le_refl _⟩ rfl rfl (Nat.le_of_ble_eq_true rfl) dX3_readAtom_74 ?_
      refine z_ifb_ne (tgt := 88) S he dX3_readAtom_77 (by decide) (fun he => ?_) (fun he => ?_)
      · exact p_X3_readAtom_J88 S h_v1 he
      · refine z_aload_n S dX3_readAtom_80 rfl 0 rfl ?_
        refine z_getF (j := 104) S fo_RX3_14 2 rfl rfl ok_102 dX3_readAtom_81 ?_
        obtain ⟨⟨r12, M13⟩, h9, he⟩ := bnd he
        dsimp only at he
        refine z_cVI (As := []) S cv_RX3_50 (K_X7_refuse ok_104 (Option.some.inj h9)) ok_104 (by decide) (q := (RX7, TX7, 9)) rfl rfl ⟨rfl, rfl⟩ ⟨Nat.le_of_ble_eq_true rfl, Nat.le_of_ble_eq_true rfl⟩ ⟨Nat.le_refl _, Nat.le_refl _⟩ rfl rfl (Nat.le_of_ble_eq_true rfl) dX3_readAtom_84 ?_
        exact z_zret S (Prod.mk.inj (Option.some.inj he)) dX3_readAtom_87
  · refine z_iconst (v := 0) S dX3_readAtom_50 (by decide) ?_
    exact z_zret0 S (Prod.mk.inj (Option.some.inj he)) dX3_readAtom_51
set_option maxRecDepth 100000 in
set_option maxHeartbeats 4000000 in
theorem K_X3_readAtom {X : Cx} {l : Launch} {M : Mm} {a1 : Nat} {r : Bool} {N : Mm} (h_a1 : OK 0 a1 2) (he : f_X3_readAtom M a1 = some (r, N)) : KI X 0 l yX3_readAtom (wz yX3_readAtom cX3_readAtom 4 (some .boolean)) rm_X3_readAtom [.ref (X.2.2 102), .ref (X.2.2 a1)] M (bI r) N := by
  intro sz
  refine K_of (Qc := (fun sz => QI X 0 (bI r) N sz)) (own := RX3) (lv0 := [(0, .ref (X.2.2 102)), (1, .ref (X.2.2 a1))]) (by decide +kernel) rfl (Nat.le_of_ble_eq_true rfl) rfl (fun p e s m args below meth c S => ?_) sz
  · unfold f_X3_readAtom at he
    refine z_aload_n S dX3_readAtom_0 rfl 0 rfl ?_
    refine z_getF (j := 104) S fo_RX3_14 2 rfl rfl ok_102 dX3_readAtom_1 ?_
    obtain ⟨r1, h9, he⟩ := bnd he
    refine z_cVI (As := []) S cv_RX3_131 (K_X7_marksHere ok_104 h9) ok_104 (by decide) (q := (RX7, TX7, 9)) rfl rfl ⟨rfl, rfl⟩ ⟨Nat.le_of_ble_eq_true rfl, Nat.le_of_ble_eq_true rfl⟩ ⟨Nat.le_refl _, Nat.le_refl _⟩ rfl rfl (Nat.le_of_ble_eq_true rfl) dX3_readAtom_4 ?_
    refine z_istore_n (lv' := [(0, .ref (X.2.2 102)), (1, .ref (X.2.2 a1)), (2, .int r1)]) S [1, 2, 0] dX3_readAtom_7 rfl (by decide) rfl ?_
    refine z_iload_n S dX3_readAtom_8 rfl 2 rfl ?_
    refine z_iconst (v := (-1)) S dX3_readAtom_9 (by decide) ?_
    refine z_icmp_eq (tgt := 42) S he dX3_readAtom_10 (by decide) (fun he => ?_) (fun he => ?_)
    · refine z_lv (ks := [0, 1]) rfl ?_
      exact p_X3_readAtom_J42 S h_a1 he
    · refine z_iload_n S dX3_readAtom_13 rfl 2 rfl ?_
      obtain ⟨r14, h9, he⟩ := bnd he
      refine z_cSI (As := [.int r1]) S cs_RX3_135 (K_J6_bitCount_0f7a4  h9) ⟨rfl, rfl⟩ ⟨Nat.le_of_ble_eq_true rfl, Nat.le_of_ble_eq_true rfl⟩ ⟨Nat.le_refl _, Nat.le_refl _⟩ rfl rfl (Nat.le_of_ble_eq_true rfl) dX3_readAtom_14 ?_
      refine z_iconst (v := 1) S dX3_readAtom_17 (by decide) ?_
      refine z_icmp_ne (tgt := 42) S he dX3_readAtom_18 (by decide) (fun he => ?_) (fun he => ?_)
      · refine z_lv (ks := [0, 1]) rfl ?_
        exact p_X3_readAtom_J42 S h_a1 he
      · refine z_aload_n S dX3_readAtom_21 rfl 1 rfl ?_
        refine z_sipush (v := 1010) S dX3_readAtom_22 (by decide) ?_
        refine z_iload_n S dX3_readAtom_25 rfl 2 rfl ?_
        obtain ⟨r15, h9, he⟩ := bnd he
        refine z_cSI (As := [.int r1]) S cs_RX3_141 (K_J6_numberOfTrailingZeros_0f7a4  h9) ⟨rfl, rfl⟩ ⟨Nat.le_of_ble_eq_true rfl, Nat.le_of_ble_eq_true rfl⟩ ⟨Nat.le_refl _, Nat.le_refl _⟩ rfl rfl (Nat.le_of_ble_eq_true rfl) dX3_readAtom_26 ?_
        refine z_iadd S dX3_readAtom_29 ?_
        obtain ⟨M16, h9, he⟩ := bnd he
        refine z_cVV (As := [.int (1010 + r15)]) S cv_RX3_128 (K_X2_addOperation h_a1 h9) h_a1 (by decide) (q := (RX2, TX2, 7)) rfl rfl ⟨rfl, rfl⟩ ⟨Nat.le_of_ble_eq_true rfl, Nat.le_of_ble_eq_true rfl⟩ ⟨Nat.le_refl _, Nat.le_refl _⟩ rfl rfl (Nat.le_of_ble_eq_true rfl) dX3_readAtom_30 ?_
        refine z_aload_n S dX3_readAtom_33 rfl 0 rfl ?_
        refine z_getF (j := 104) S fo_RX3_14 2 rfl rfl ok_102 dX3_readAtom_34 ?_
        obtain ⟨M17, h9, he⟩ := bnd he
        refine z_cVV (As := []) S cv_RX3_67 (K_X7_next ok_104 h9) ok_104 (by decide) (q := (RX7, TX7, 9)) rfl rfl ⟨rfl, rfl⟩ ⟨Nat.le_of_ble_eq_true rfl, Nat.le_of_ble_eq_true rfl⟩ ⟨Nat.le_refl _, Nat.le_refl _⟩ rfl rfl (Nat.le_of_ble_eq_true rfl) dX3_readAtom_37 ?_
        refine z_iconst (v := 1) S dX3_readAtom_40 (by decide) ?_
        exact z_zret1 S (Prod.mk.inj (Option.some.inj he)) dX3_readAtom_41
set_option maxRecDepth 100000 in
set_option maxHeartbeats 4000000 in
theorem p_X3_settle_J0_63 {X : Cx} {p : Program} {l : Launch} {e : Env} {s : State} {m : MethodId} {args : Array Value} {below : List Frame} {meth : Method} {c : Code} (S : SB X 0 p s m args meth c cX3_settle 4 none RX3) {M : Mm} {N : Mm} {v1 : Nat} {v2 : Int32} {v3 : Int32} {t0 : Int32} {t1 : Int32} {x : Mm ⊕ Mm} (h_v1 : OK 0 v1 2) (he : f_X3_settle_J0_63 M v1 v2 v3 t0 t1 = some x) (hc : ∀ b, x = .inl b → Z X 0 p l e rm_X3_settle s m args below meth c 0 0 (MQ below (QV X 0 N s.heap.size) args s 0 0 (AA X 0 s.heap.size)) 4 b 0 [(0, .ref (X.2.2 102)), (1, .ref (X.2.2 v1)), (2, .int v2)] []) (hx : ∀ b, x = .inr b → Z X 0 p l e rm_X3_settle s m args below meth c 0 0 (MQ below (QV X 0 N s.heap.size) args s 0 0 (AA X 0 s.heap.size)) 4 b 75 [] []) : Z X 0 p l e rm_X3_settle s m args below meth c 0 0 (MQ below (QV X 0 N s.heap.size) args s 0 0 (AA X 0 s.heap.size)) 4 M 63 [(0, .ref (X.2.2 102)), (1, .ref (X.2.2 v1)), (2, .int v2), (3, .int v3)] [.int t0, .int t1, .ref (X.2.2 102)] := by
  unfold f_X3_settle_J0_63 at he
  refine z_isub S dX3_settle_63 ?_
  refine z_putIb S fo_RX3_84p rfl ok_102 rfl rfl he dX3_settle_64 (fun M3 he => ?_)
  refine z_aload_n S dX3_settle_67 rfl 1 rfl ?_
  refine z_iload_n S dX3_settle_68 rfl 3 rfl ?_
  obtain ⟨M4, h9, he⟩ := bnd he
  refine z_cVV (As := [.int v3]) S cv_RX3_128 (K_X2_addOperation h_v1 h9) h_v1 (by decide) (q := (RX2, TX2, 7)) rfl rfl ⟨rfl, rfl⟩ ⟨Nat.le_of_ble_eq_true rfl, Nat.le_of_ble_eq_true rfl⟩ ⟨Nat.le_refl _, Nat.le_refl _⟩ rfl rfl (Nat.le_of_ble_eq_true rfl) dX3_settle_69 ?_
  refine z_goto (tgt := 0) S dX3_settle_72 (by decide) ?_
  refine z_lv (ks := [0, 1, 2]) rfl ?_
  exact hc _ (Option.some.inj he).symm
set_option maxRecDepth 100000 in
set_option maxHeartbeats 4000000 in
theorem p_X3_settle_L0 {X : Cx} {p : Program} {l : Launch} {e : Env} {s : State} {m : MethodId} {args : Array Value} {below : List Frame} {meth : Method} {c : Code} (S : SB X 0 p s m args meth c cX3_settle 4 none RX3) {M : Mm} {N : Mm} {v1 : Nat} {v2 : Int32} {x : Mm ⊕ Mm} (h_v1 : OK 0 v1 2) (he : f_X3_settle_L0 M v1 v2 = some x) (hc : ∀ b, x = .inl b → Z X 0 p l e rm_X3_settle s m args below meth c 0 0 (MQ below (QV X 0 N s.heap.size) args s 0 0 (AA X 0 s.heap.size)) 4 b 0 [(0, .ref (X.2.2 102)), (1, .ref (X.2.2 v1)), (2, .int v2)] []) (hx : ∀ b, x = .inr b → Z X 0 p l e rm_X3_settle s m args below meth c 0 0 (MQ below (QV X 0 N s.heap.size) args s 0 0 (AA X 0 s.heap.size)) 4 b 75 [] []) : Z X 0 p l e rm_X3_settle s m args below meth c 0 0 (MQ below (QV X 0 N s.heap.size) args s 0 0 (AA X 0 s.heap.size)) 4 M 0 [(0, .ref (X.2.2 102)), (1, .ref (X.2.2 v1)), (2, .int v2)] [] := by
  unfold f_X3_settle_L0 at he
  refine z_aload_n S dX3_settle_0 rfl 0 rfl ?_
  refine z_getI S fo_RX3_80 rfl ok_102 dX3_settle_1 ?_
  refine z_if_le (tgt := 75) S he dX3_settle_4 (by decide) (fun he => ?_) (fun he => ?_)
  · refine z_lv (ks := []) rfl ?_
    exact hx _ (Option.some.inj he).symm
  · refine z_aload_n S dX3_settle_7 rfl 0 rfl ?_
    refine z_getF (j := 103) S fo_RX3_20 1 rfl rfl ok_102 dX3_settle_8 ?_
    refine z_aload_n S dX3_settle_11 rfl 0 rfl ?_
    refine z_getI S fo_RX3_80 rfl ok_102 dX3_settle_12 ?_
    refine z_iconst (v := 1) S dX3_settle_15 (by decide) ?_
    refine z_isub S dX3_settle_16 ?_
    refine z_cNI (As := [.ref (X.2.2 103), .int ((gI M 102 2) - 1)]) S cn_RX3_124 (Kt_X9_at ok_103 rfl) ⟨rfl, rfl⟩ ⟨Nat.le_of_ble_eq_true rfl, Nat.le_of_ble_eq_true rfl⟩ ⟨Nat.le_refl _, Nat.le_refl _⟩ rfl rfl (Nat.le_of_ble_eq_true rfl) dX3_settle_17 ?_
    refine z_iload_n S dX3_settle_20 rfl 2 rfl ?_
    refine z_icmp_gt (tgt := 75) S he dX3_settle_21 (by decide) (fun he => ?_) (fun he => ?_)
    · refine z_lv (ks := []) rfl ?_
      exact hx _ (Option.some.inj he).symm
    · refine z_aload_n S dX3_settle_24 rfl 0 rfl ?_
      refine z_dup S rfl dX3_settle_25 ?_
      refine z_getI S fo_RX3_80 rfl ok_102 dX3_settle_26 ?_
      refine z_iconst (v := 1) S dX3_settle_29 (by decide) ?_
      refine z_isub S dX3_settle_30 ?_
      refine z_putIb S fo_RX3_80p rfl ok_102 rfl rfl he dX3_settle_31 (fun M1 he => ?_)
      refine z_aload_n S dX3_settle_34 rfl 0 rfl ?_
      refine z_getF (j := 103) S fo_RX3_20 1 rfl rfl ok_102 dX3_settle_35 ?_
      refine z_aload_n S dX3_settle_38 rfl 0 rfl ?_
      refine z_getI S fo_RX3_80 rfl ok_102 dX3_settle_39 ?_
      refine z_cNI (As := [.ref (X.2.2 103), .int (gI M1 102 2)]) S cn_RX3_124 (Kt_X9_at ok_103 rfl) ⟨rfl, rfl⟩ ⟨Nat.le_of_ble_eq_true rfl, Nat.le_of_ble_eq_true rfl⟩ ⟨Nat.le_refl _, Nat.le_refl _⟩ rfl rfl (Nat.le_of_ble_eq_true rfl) dX3_settle_42 ?_
      obtain ⟨x2, ex2, he⟩ := bnd he
      rw [Option.some.inj ex2]
      refine z_istore_n (lv' := [(0, .ref (X.2.2 102)), (1, .ref (X.2.2 v1)), (2, .int v2), (3, .int x2)]) S [1, 2, 3, 0] dX3_settle_45 rfl (by decide) rfl ?_
      refine z_aload_n S dX3_settle_46 rfl 0 rfl ?_
      refine z_dup S rfl dX3_settle_47 ?_
      refine z_getI S fo_RX3_84 rfl ok_102 dX3_settle_48 ?_
      refine z_iload_n S dX3_settle_51 rfl 3 rfl ?_
      refine z_sipush (v := 1023) S dX3_settle_52 (by decide) ?_
      refine z_icmp_ne (tgt := 62) S he dX3_settle_55 (by decide) (fun he => ?_) (fun he => ?_)
      · refine z_iconst (v := 0) S dX3_settle_62 (by decide) ?_
        exact p_X3_settle_J0_63 S h_v1 he hc hx
      · refine z_iconst (v := 1) S dX3_settle_58 (by decide) ?_
        refine z_goto (tgt := 63) S dX3_settle_59 (by decide) ?_
        exact p_X3_settle_J0_63 S h_v1 he hc hx
set_option maxRecDepth 100000 in
set_option maxHeartbeats 4000000 in
theorem K_X3_settle {X : Cx} {l : Launch} {M : Mm} {a1 : Nat} {a2 : Int32} {N : Mm} (h_a1 : OK 0 a1 2) (he : f_X3_settle M a1 a2 = some N) : KV X 0 l yX3_settle (wz yX3_settle cX3_settle 4 none) rm_X3_settle [.ref (X.2.2 102), .ref (X.2.2 a1), .int a2] M N := by
  intro sz
  refine K_of (Qc := (fun sz => QV X 0 N sz)) (own := RX3) (lv0 := [(0, .ref (X.2.2 102)), (1, .ref (X.2.2 a1)), (2, .int a2)]) (by decide +kernel) rfl (Nat.le_of_ble_eq_true rfl) rfl (fun p e s m args below meth c S => ?_) sz
  · unfold f_X3_settle at he
    obtain ⟨e_5, hl, he⟩ := bnd he
    have hX : Z X 0 p l e rm_X3_settle s m args below meth c 0 0 (MQ below (QV X 0 N s.heap.size) args s 0 0 (AA X 0 s.heap.size)) 4 e_5 75 [] [] := by
      exact z_vret S (Option.some.inj he) dX3_settle_75
    have hZ9 := loopZ (f := (fun a_5 => f_X3_settle_L0 a_5 a1 a2)) (Zh := (fun a_5 => Z X 0 p l e rm_X3_settle s m args below meth c 0 0 (MQ below (QV X 0 N s.heap.size) args s 0 0 (AA X 0 s.heap.size)) 4 a_5 0 [(0, .ref (X.2.2 102)), (1, .ref (X.2.2 a1)), (2, .int a2)] [])) (fun a_5 x hb hc hr => p_X3_settle_L0 S h_a1 hb hc (fun b hxe => by rw [hr b hxe]; exact hX)) FU M hl
    exact hZ9
set_option maxRecDepth 100000 in
set_option maxHeartbeats 4000000 in
theorem p_X3_readClosings_L2 {X : Cx} {p : Program} {l : Launch} {e : Env} {s : State} {m : MethodId} {args : Array Value} {below : List Frame} {meth : Method} {c : Code} (S : SB X 0 p s m args meth c cX3_readClosings 3 none RX3) {M : Mm} {N : Mm} {v1 : Nat} {v2 : Int32} {x : (Mm × Int32) ⊕ ((Mm) ⊕ Mm)} (h_v1 : OK 0 v1 2) (he : f_X3_readClosings_L2 M v1 v2 = some x) (hc : ∀ b, x = .inl b → Z X 0 p l e rm_X3_readClosings s m args below meth c 0 0 (MQ below (QV X 0 N s.heap.size) args s 0 0 (AA X 0 s.heap.size)) 3 b.1 2 [(0, .ref (X.2.2 102)), (1, .ref (X.2.2 v1)), (2, .int b.2)] []) (hx : ∀ b, x = .inr (.inr b) → Z X 0 p l e rm_X3_readClosings s m args below meth c 0 0 (MQ below (QV X 0 N s.heap.size) args s 0 0 (AA X 0 s.heap.size)) 3 b 70 [] []) (hr : ∀ v, x = .inr (.inl v) → v = N) : Z X 0 p l e rm_X3_readClosings s m args below meth c 0 0 (MQ below (QV X 0 N s.heap.size) args s 0 0 (AA X 0 s.heap.size)) 3 M 2 [(0, .ref (X.2.2 102)), (1, .ref (X.2.2 v1)), (2, .int v2)] [] := by
  unfold f_X3_readClosings_L2 at he
  refine z_iload_n S dX3_readClosings_2 rfl 2 rfl ?_
  refine z_bipush (v := 6) S dX3_readClosings_3 (by decide) ?_
  refine z_icmp_ge (tgt := 70) S he dX3_readClosings_5 (by decide) (fun he => ?_) (fun he => ?_)
  · refine z_lv (ks := []) rfl ?_
    exact hx _ (Option.some.inj he).symm
  · refine z_aload_n S dX3_readClosings_8 rfl 0 rfl ?_
    refine z_getF (j := 104) S fo_RX3_14 2 rfl rfl ok_102 dX3_readClosings_9 ?_
    refine z_getWd S fo_RX3_30 rfl ok_104 he dX3_readClosings_12 (fun q1 hq1 he => ?_)
    refine z_getW (i := 24) (j := 324) S (by decide) rfl rfl gw_RX3_117 dX3_readClosings_15 ?_
    refine z_acmp_ne (tgt := 70) S hq1 (isW_add (i := 24) (by decide)) he dX3_readClosings_18 (by decide) (fun he => ?_) (fun he => ?_)
    · refine z_lv (ks := []) rfl ?_
      exact hx _ (Option.some.inj he).symm
    · refine z_aload_n S dX3_readClosings_21 rfl 0 rfl ?_
      refine z_aload_n S dX3_readClosings_22 rfl 1 rfl ?_
      refine z_sipush (v := 1025) S dX3_readClosings_23 (by decide) ?_
      obtain ⟨M2, h9, he⟩ := bnd he
      refine z_cVV (As := [.ref (X.2.2 v1), .int 1025]) S cv_RX3_100 (K_X3_settle h_v1 h9) ok_102 (by decide) (q := (RX3, TX3, 4)) rfl rfl ⟨rfl, rfl⟩ ⟨Nat.le_of_ble_eq_true rfl, Nat.le_of_ble_eq_true rfl⟩ ⟨Nat.le_refl _, Nat.le_refl _⟩ rfl rfl (Nat.le_of_ble_eq_true rfl) dX3_readClosings_26 ?_
      refine z_aload_n S dX3_readClosings_29 rfl 0 rfl ?_
      refine z_getI S fo_RX3_80 rfl ok_102 dX3_readClosings_30 ?_
      refine z_if_ne (tgt := 37) S he dX3_readClosings_33 (by decide) (fun he => ?_) (fun he => ?_)
      · refine z_aload_n S dX3_readClosings_37 rfl 0 rfl ?_
        refine z_dup S rfl dX3_readClosings_38 ?_
        refine z_getI S fo_RX3_80 rfl ok_102 dX3_readClosings_39 ?_
        refine z_iconst (v := 1) S dX3_readClosings_42 (by decide) ?_
        refine z_isub S dX3_readClosings_43 ?_
        refine z_putIb S fo_RX3_80p rfl ok_102 rfl rfl he dX3_readClosings_44 (fun M3 he => ?_)
        refine z_aload_n S dX3_readClosings_47 rfl 0 rfl ?_
        refine z_dup S rfl dX3_readClosings_48 ?_
        refine z_getI S fo_RX3_84 rfl ok_102 dX3_readClosings_49 ?_
        refine z_iconst (v := 1) S dX3_readClosings_52 (by decide) ?_
        refine z_isub S dX3_readClosings_53 ?_
        refine z_putIb S fo_RX3_84p rfl ok_102 rfl rfl he dX3_readClosings_54 (fun M4 he => ?_)
        refine z_aload_n S dX3_readClosings_57 rfl 0 rfl ?_
        refine z_getF (j := 104) S fo_RX3_14 2 rfl rfl ok_102 dX3_readClosings_58 ?_
        obtain ⟨M5, h9, he⟩ := bnd he
        refine z_cVV (As := []) S cv_RX3_67 (K_X7_next ok_104 h9) ok_104 (by decide) (q := (RX7, TX7, 9)) rfl rfl ⟨rfl, rfl⟩ ⟨Nat.le_of_ble_eq_true rfl, Nat.le_of_ble_eq_true rfl⟩ ⟨Nat.le_refl _, Nat.le_refl _⟩ rfl rfl (Nat.le_of_ble_eq_true rfl) dX3_readClosings_61 ?_
        refine z_iinc (v := (v2 + 1)) (lv' := [(0, .ref (X.2.2 102)), (1, .ref (X.2.2 v1)), (2, .int (v2 + 1))]) S [1, 2, 0] 2 dX3_readClosings_64 rfl (by rfl) (by decide) rfl ?_
        refine z_goto (tgt := 2) S dX3_readClosings_67 (by decide) ?_
        refine z_lv (ks := [0, 1, 2]) rfl ?_
        exact hc _ (Option.some.inj he).symm
      · exact z_vret S (hr _ (Option.some.inj he).symm) dX3_readClosings_36
set_option maxRecDepth 100000 in
set_option maxHeartbeats 4000000 in
theorem K_X3_readClosings {X : Cx} {l : Launch} {M : Mm} {a1 : Nat} {N : Mm} (h_a1 : OK 0 a1 2) (he : f_X3_readClosings M a1 = some N) : KV X 0 l yX3_readClosings (wz yX3_readClosings cX3_readClosings 3 none) rm_X3_readClosings [.ref (X.2.2 102), .ref (X.2.2 a1)] M N := by
  intro sz
  refine K_of (Qc := (fun sz => QV X 0 N sz)) (own := RX3) (lv0 := [(0, .ref (X.2.2 102)), (1, .ref (X.2.2 a1))]) (by decide +kernel) rfl (Nat.le_of_ble_eq_true rfl) rfl (fun p e s m args below meth c S => ?_) sz
  · unfold f_X3_readClosings at he
    refine z_iconst (v := 0) S dX3_readClosings_0 (by decide) ?_
    refine z_istore_n (lv' := [(0, .ref (X.2.2 102)), (1, .ref (X.2.2 a1)), (2, .int 0)]) S [1, 2, 0] dX3_readClosings_1 rfl (by decide) rfl ?_
    obtain ⟨r9, hl, hr1, hr2⟩ := bndS he
    have hX : ∀ e_6, r9 = .inr e_6 → Z X 0 p l e rm_X3_readClosings s m args below meth c 0 0 (MQ below (QV X 0 N s.heap.size) args s 0 0 (AA X 0 s.heap.size)) 3 e_6 70 [] [] := by
      intro e_6 hre
      have he := hr2 e_6 hre
      exact z_vret S (Option.some.inj he) dX3_readClosings_70
    have hZ9 := loopZ (f := (fun a_6 => f_X3_readClosings_L2 a_6.1 a1 a_6.2)) (Zh := (fun a_6 => Z X 0 p l e rm_X3_readClosings s m args below meth c 0 0 (MQ below (QV X 0 N s.heap.size) args s 0 0 (AA X 0 s.heap.size)) 3 a_6.1 2 [(0, .ref (X.2.2 102)), (1, .ref (X.2.2 a1)), (2, .int a_6.2)] [])) (fun a_6 x hb hc hr9 => p_X3_readClosings_L2 S h_a1 hb hc (fun b hxe => hX b (hr9 _ hxe).symm) (fun v hxv => Option.some.inj (hr1 v (hr9 _ hxv).symm))) FU (M, 0) hl
    exact hZ9
set_option maxRecDepth 100000 in
set_option maxHeartbeats 4000000 in
theorem p_X3_readOpenings_J2_84 {X : Cx} {p : Program} {l : Launch} {e : Env} {s : State} {m : MethodId} {args : Array Value} {below : List Frame} {meth : Method} {c : Code} (S : SB X 0 p s m args meth c cX3_readOpenings 2 (some .boolean) RX3) {M : Mm} {N : Mm} {r : Bool} {v1 : Int32} {t0 : Int32} {x : (Mm × Int32) ⊕ ((Bool × Mm) ⊕ Mm)}  (he : f_X3_readOpenings_J2_84 M v1 t0 = some x) (hc : ∀ b, x = .inl b → Z X 0 p l e rm_X3_readOpenings s m args below meth c 0 0 (MQ below (QI X 0 (bI r) N s.heap.size) args s 0 0 (AA X 0 s.heap.size)) 2 b.1 2 [(0, .ref (X.2.2 102)), (1, .int b.2)] []) (hx : ∀ b, x = .inr (.inr b) → Z X 0 p l e rm_X3_readOpenings s m args below meth c 0 0 (MQ below (QI X 0 (bI r) N s.heap.size) args s 0 0 (AA X 0 s.heap.size)) 2 b 100 [] []) (hr : ∀ v, x = .inr (.inl v) → v = (r, N)) : Z X 0 p l e rm_X3_readOpenings s m args below meth c 0 0 (MQ below (QI X 0 (bI r) N s.heap.size) args s 0 0 (AA X 0 s.heap.size)) 2 M 84 [(0, .ref (X.2.2 102)), (1, .int v1)] [.int t0, .ref (X.2.2 102)] := by
  unfold f_X3_readOpenings_J2_84 at he
  obtain ⟨M4, h9, he⟩ := bnd he
  refine z_cVV (As := [.int t0]) S cv_RX3_104 (K_X3_leaveOpen  h9) ok_102 (by decide) (q := (RX3, TX3, 4)) rfl rfl ⟨rfl, rfl⟩ ⟨Nat.le_of_ble_eq_true rfl, Nat.le_of_ble_eq_true rfl⟩ ⟨Nat.le_refl _, Nat.le_refl _⟩ rfl rfl (Nat.le_of_ble_eq_true rfl) dX3_readOpenings_84 ?_
  refine z_aload_n S dX3_readOpenings_87 rfl 0 rfl ?_
  refine z_getF (j := 104) S fo_RX3_14 2 rfl rfl ok_102 dX3_readOpenings_88 ?_
  obtain ⟨M5, h9, he⟩ := bnd he
  refine z_cVV (As := []) S cv_RX3_67 (K_X7_next ok_104 h9) ok_104 (by decide) (q := (RX7, TX7, 9)) rfl rfl ⟨rfl, rfl⟩ ⟨Nat.le_of_ble_eq_true rfl, Nat.le_of_ble_eq_true rfl⟩ ⟨Nat.le_refl _, Nat.le_refl _⟩ rfl rfl (Nat.le_of_ble_eq_true rfl) dX3_readOpenings_91 ?_
  refine z_iinc (v := (v1 + 1)) (lv' := [(0, .ref (X.2.2 102)), (1, .int (v1 + 1))]) S [1, 0] 1 dX3_readOpenings_94 rfl (by rfl) (by decide) rfl ?_
  refine z_goto (tgt := 2) S dX3_readOpenings_97 (by decide) ?_
  refine z_lv (ks := [0, 1]) rfl ?_
  exact hc _ (Option.some.inj he).symm
set_option maxRecDepth 100000 in
set_option maxHeartbeats 4000000 in
theorem p_X3_readOpenings_J2_34 {X : Cx} {p : Program} {l : Launch} {e : Env} {s : State} {m : MethodId} {args : Array Value} {below : List Frame} {meth : Method} {c : Code} (S : SB X 0 p s m args meth c cX3_readOpenings 2 (some .boolean) RX3) {M : Mm} {N : Mm} {r : Bool} {v1 : Int32} {x : (Mm × Int32) ⊕ ((Bool × Mm) ⊕ Mm)}  (he : f_X3_readOpenings_J2_34 M v1 = some x) (hc : ∀ b, x = .inl b → Z X 0 p l e rm_X3_readOpenings s m args below meth c 0 0 (MQ below (QI X 0 (bI r) N s.heap.size) args s 0 0 (AA X 0 s.heap.size)) 2 b.1 2 [(0, .ref (X.2.2 102)), (1, .int b.2)] []) (hx : ∀ b, x = .inr (.inr b) → Z X 0 p l e rm_X3_readOpenings s m args below meth c 0 0 (MQ below (QI X 0 (bI r) N s.heap.size) args s 0 0 (AA X 0 s.heap.size)) 2 b 100 [] []) (hr : ∀ v, x = .inr (.inl v) → v = (r, N)) : Z X 0 p l e rm_X3_readOpenings s m args below meth c 0 0 (MQ below (QI X 0 (bI r) N s.heap.size) args s 0 0 (AA X 0 s.heap.size)) 2 M 34 [(0, .ref (X.2.2 102)), (1, .int v1)] [] := by
  unfold f_X3_readOpenings_J2_34 at he
  refine z_aload_n S dX3_readOpenings_34 rfl 0 rfl ?_
  refine z_getI S fo_RX3_84 rfl ok_102 dX3_readOpenings_35 ?_
  refine z_bipush (v := 6) S dX3_readOpenings_38 (by decide) ?_
  refine z_icmp_lt (tgt := 51) S he dX3_readOpenings_40 (by decide) (fun he => ?_) (fun he => ?_)
  · refine z_aload_n S dX3_readOpenings_51 rfl 0 rfl ?_
    refine z_dup S rfl dX3_readOpenings_52 ?_
    refine z_getI S fo_RX3_84 rfl ok_102 dX3_readOpenings_53 ?_
    refine z_iconst (v := 1) S dX3_readOpenings_56 (by decide) ?_
    refine z_iadd S dX3_readOpenings_57 ?_
    refine z_putIb S fo_RX3_84p rfl ok_102 rfl rfl he dX3_readOpenings_58 (fun M2 he => ?_)
    refine z_aload_n S dX3_readOpenings_61 rfl 0 rfl ?_
    refine z_aload_n S dX3_readOpenings_62 rfl 0 rfl ?_
    refine z_getF (j := 104) S fo_RX3_14 2 rfl rfl ok_102 dX3_readOpenings_63 ?_
    refine z_getWd S fo_RX3_30 rfl ok_104 he dX3_readOpenings_66 (fun q3 hq3 he => ?_)
    refine z_getW (i := 13) (j := 313) S (by decide) rfl rfl gw_RX3_111 dX3_readOpenings_69 ?_
    refine z_acmp_ne (tgt := 81) S hq3 (isW_add (i := 13) (by decide)) he dX3_readOpenings_72 (by decide) (fun he => ?_) (fun he => ?_)
    · refine z_sipush (v := 1026) S dX3_readOpenings_81 (by decide) ?_
      exact p_X3_readOpenings_J2_84 S  he hc hx hr
    · refine z_sipush (v := 1023) S dX3_readOpenings_75 (by decide) ?_
      refine z_goto (tgt := 84) S dX3_readOpenings_78 (by decide) ?_
      exact p_X3_readOpenings_J2_84 S  he hc hx hr
  · refine z_aload_n S dX3_readOpenings_43 rfl 0 rfl ?_
    refine z_getF (j := 104) S fo_RX3_14 2 rfl rfl ok_102 dX3_readOpenings_44 ?_
    obtain ⟨⟨r6, M7⟩, h9, he⟩ := bnd he
    dsimp only at he
    refine z_cVI (As := []) S cv_RX3_50 (K_X7_refuse ok_104 (Option.some.inj h9)) ok_104 (by decide) (q := (RX7, TX7, 9)) rfl rfl ⟨rfl, rfl⟩ ⟨Nat.le_of_ble_eq_true rfl, Nat.le_of_ble_eq_true rfl⟩ ⟨Nat.le_refl _, Nat.le_refl _⟩ rfl rfl (Nat.le_of_ble_eq_true rfl) dX3_readOpenings_47 ?_
    exact z_zret S (Prod.mk.inj (hr _ (Option.some.inj he).symm)) dX3_readOpenings_50
set_option maxRecDepth 100000 in
set_option maxHeartbeats 4000000 in
theorem p_X3_readOpenings_L2 {X : Cx} {p : Program} {l : Launch} {e : Env} {s : State} {m : MethodId} {args : Array Value} {below : List Frame} {meth : Method} {c : Code} (S : SB X 0 p s m args meth c cX3_readOpenings 2 (some .boolean) RX3) {M : Mm} {N : Mm} {r : Bool} {v1 : Int32} {x : (Mm × Int32) ⊕ ((Bool × Mm) ⊕ Mm)}  (he : f_X3_readOpenings_L2 M v1 = some x) (hc : ∀ b, x = .inl b → Z X 0 p l e rm_X3_readOpenings s m args below meth c 0 0 (MQ below (QI X 0 (bI r) N s.heap.size) args s 0 0 (AA X 0 s.heap.size)) 2 b.1 2 [(0, .ref (X.2.2 102)), (1, .int b.2)] []) (hx : ∀ b, x = .inr (.inr b) → Z X 0 p l e rm_X3_readOpenings s m args below meth c 0 0 (MQ below (QI X 0 (bI r) N s.heap.size) args s 0 0 (AA X 0 s.heap.size)) 2 b 100 [] []) (hr : ∀ v, x = .inr (.inl v) → v = (r, N)) : Z X 0 p l e rm_X3_readOpenings s m args below meth c 0 0 (MQ below (QI X 0 (bI r) N s.heap.size) args s 0 0 (AA X 0 s.heap.size)) 2 M 2 [(0, .ref (X.2.2 102)), (1, .int v1)] [] := by
  unfold f_X3_readOpenings_L2 at he
  refine z_iload_n S dX3_readOpenings_2 rfl 1 rfl ?_
  refine z_bipush (v := 6) S dX3_readOpenings_3 (by decide) ?_
  refine z_icmp_gt (tgt := 100) S he dX3_readOpenings_5 (by decide) (fun he => ?_) (fun he => ?_)
  · refine z_lv (ks := []) rfl ?_
    exact hx _ (Option.some.inj he).symm
  · refine z_aload_n S dX3_readOpenings_8 rfl 0 rfl ?_
    refine z_getF (j := 104) S fo_RX3_14 2 rfl rfl ok_102 dX3_readOpenings_9 ?_
    refine z_getWd S fo_RX3_30 rfl ok_104 he dX3_readOpenings_12 (fun q1 hq1 he => ?_)
    refine z_getW (i := 13) (j := 313) S (by decide) rfl rfl gw_RX3_111 dX3_readOpenings_15 ?_
    refine z_acmp_eq (tgt := 34) S hq1 (isW_add (i := 13) (by decide)) he dX3_readOpenings_18 (by decide) (fun he => ?_) (fun he => ?_)
    · exact p_X3_readOpenings_J2_34 S  he hc hx hr
    · refine z_aload_n S dX3_readOpenings_21 rfl 0 rfl ?_
      refine z_getF (j := 104) S fo_RX3_14 2 rfl rfl ok_102 dX3_readOpenings_22 ?_
      refine z_getWd S fo_RX3_30 rfl ok_104 he dX3_readOpenings_25 (fun q8 hq8 he => ?_)
      refine z_getW (i := 23) (j := 323) S (by decide) rfl rfl gw_RX3_114 dX3_readOpenings_28 ?_
      refine z_acmp_ne (tgt := 100) S hq8 (isW_add (i := 23) (by decide)) he dX3_readOpenings_31 (by decide) (fun he => ?_) (fun he => ?_)
      · refine z_lv (ks := []) rfl ?_
        exact hx _ (Option.some.inj he).symm
      · exact p_X3_readOpenings_J2_34 S  he hc hx hr
set_option maxRecDepth 100000 in
set_option maxHeartbeats 4000000 in
theorem K_X3_readOpenings {X : Cx} {l : Launch} {M : Mm} {r : Bool} {N : Mm}  (he : f_X3_readOpenings M  = some (r, N)) : KI X 0 l yX3_readOpenings (wz yX3_readOpenings cX3_readOpenings 2 (some .boolean)) rm_X3_readOpenings [.ref (X.2.2 102)] M (bI r) N := by
  intro sz
  refine K_of (Qc := (fun sz => QI X 0 (bI r) N sz)) (own := RX3) (lv0 := [(0, .ref (X.2.2 102))]) (by decide +kernel) rfl (Nat.le_of_ble_eq_true rfl) rfl (fun p e s m args below meth c S => ?_) sz
  · unfold f_X3_readOpenings at he
    refine z_iconst (v := 0) S dX3_readOpenings_0 (by decide) ?_
    refine z_istore_n (lv' := [(0, .ref (X.2.2 102)), (1, .int 0)]) S [1, 0] dX3_readOpenings_1 rfl (by decide) rfl ?_
    obtain ⟨r9, hl, hr1, hr2⟩ := bndS he
    have hX : ∀ e_9, r9 = .inr e_9 → Z X 0 p l e rm_X3_readOpenings s m args below meth c 0 0 (MQ below (QI X 0 (bI r) N s.heap.size) args s 0 0 (AA X 0 s.heap.size)) 2 e_9 100 [] [] := by
      intro e_9 hre
      have he := hr2 e_9 hre
      refine z_iconst (v := 1) S dX3_readOpenings_100 (by decide) ?_
      exact z_zret1 S (Prod.mk.inj (Option.some.inj he)) dX3_readOpenings_101
    have hZ9 := loopZ (f := (fun a_9 => f_X3_readOpenings_L2 a_9.1 a_9.2)) (Zh := (fun a_9 => Z X 0 p l e rm_X3_readOpenings s m args below meth c 0 0 (MQ below (QI X 0 (bI r) N s.heap.size) args s 0 0 (AA X 0 s.heap.size)) 2 a_9.1 2 [(0, .ref (X.2.2 102)), (1, .int a_9.2)] [])) (fun a_9 x hb hc hr9 => p_X3_readOpenings_L2 S  hb hc (fun b hxe => hX b (hr9 _ hxe).symm) (fun v hxv => Option.some.inj (hr1 v (hr9 _ hxv).symm))) FU (M, 0) hl
    exact hZ9
set_option maxRecDepth 100000 in
set_option maxHeartbeats 4000000 in
theorem p_X3_readCondition_J12_123 {X : Cx} {p : Program} {l : Launch} {e : Env} {s : State} {m : MethodId} {args : Array Value} {below : List Frame} {meth : Method} {c : Code} (S : SB X 0 p s m args meth c cX3_readCondition 3 (some .boolean) RX3) {M : Mm} {N : Mm} {r : Bool} {v1 : Nat} {v2 : Int32} {x : (Mm × Int32) ⊕ ((Bool × Mm) ⊕ Mm)} (h_v1 : OK 0 v1 2) (he : f_X3_readCondition_J12_123 M v1 v2 = some x) (hc : ∀ b, x = .inl b → Z X 0 p l e rm_X3_readCondition s m args below meth c 0 0 (MQ below (QI X 0 (bI r) N s.heap.size) args s 0 0 (AA X 0 s.heap.size)) 3 b.1 12 [(0, .ref (X.2.2 102)), (1, .ref (X.2.2 v1)), (2, .int b.2)] []) (hx : ∀ b, x = .inr (.inr b) → Z X 0 p l e rm_X3_readCondition s m args below meth c 0 0 (MQ below (QI X 0 (bI r) N s.heap.size) args s 0 0 (AA X 0 s.heap.size)) 3 b 136 [(0, .ref (X.2.2 102))] []) (hr : ∀ v, x = .inr (.inl v) → v = (r, N)) : Z X 0 p l e rm_X3_readCondition s m args below meth c 0 0 (MQ below (QI X 0 (bI r) N s.heap.size) args s 0 0 (AA X 0 s.heap.size)) 3 M 123 [(0, .ref (X.2.2 102)), (1, .ref (X.2.2 v1)), (2, .int v2)] [] := by
  unfold f_X3_readCondition_J12_123 at he
  refine z_aload_n S dX3_readCondition_123 rfl 0 rfl ?_
  refine z_getF (j := 104) S fo_RX3_14 2 rfl rfl ok_102 dX3_readCondition_124 ?_
  obtain ⟨M12, h9, he⟩ := bnd he
  refine z_cVV (As := []) S cv_RX3_67 (K_X7_next ok_104 h9) ok_104 (by decide) (q := (RX7, TX7, 9)) rfl rfl ⟨rfl, rfl⟩ ⟨Nat.le_of_ble_eq_true rfl, Nat.le_of_ble_eq_true rfl⟩ ⟨Nat.le_refl _, Nat.le_refl _⟩ rfl rfl (Nat.le_of_ble_eq_true rfl) dX3_readCondition_127 ?_
  refine z_iinc (v := (v2 + 1)) (lv' := [(0, .ref (X.2.2 102)), (1, .ref (X.2.2 v1)), (2, .int (v2 + 1))]) S [1, 2, 0] 2 dX3_readCondition_130 rfl (by rfl) (by decide) rfl ?_
  refine z_goto (tgt := 12) S dX3_readCondition_133 (by decide) ?_
  refine z_lv (ks := [0, 1, 2]) rfl ?_
  exact hc _ (Option.some.inj he).symm
set_option maxRecDepth 100000 in
set_option maxHeartbeats 4000000 in
theorem p_X3_readCondition_J12_110 {X : Cx} {p : Program} {l : Launch} {e : Env} {s : State} {m : MethodId} {args : Array Value} {below : List Frame} {meth : Method} {c : Code} (S : SB X 0 p s m args meth c cX3_readCondition 3 (some .boolean) RX3) {M : Mm} {N : Mm} {r : Bool} {x : (Mm × Int32) ⊕ ((Bool × Mm) ⊕ Mm)} {v1 : Nat}  (he : f_X3_readCondition_J12_110 M  = some x) (hc : ∀ b, x = .inl b → Z X 0 p l e rm_X3_readCondition s m args below meth c 0 0 (MQ below (QI X 0 (bI r) N s.heap.size) args s 0 0 (AA X 0 s.heap.size)) 3 b.1 12 [(0, .ref (X.2.2 102)), (1, .ref (X.2.2 v1)), (2, .int b.2)] []) (hx : ∀ b, x = .inr (.inr b) → Z X 0 p l e rm_X3_readCondition s m args below meth c 0 0 (MQ below (QI X 0 (bI r) N s.heap.size) args s 0 0 (AA X 0 s.heap.size)) 3 b 136 [(0, .ref (X.2.2 102))] []) (hr : ∀ v, x = .inr (.inl v) → v = (r, N)) : Z X 0 p l e rm_X3_readCondition s m args below meth c 0 0 (MQ below (QI X 0 (bI r) N s.heap.size) args s 0 0 (AA X 0 s.heap.size)) 3 M 110 [] [] := by
  unfold f_X3_readCondition_J12_110 at he
  refine z_iconst (v := 1) S dX3_readCondition_110 (by decide) ?_
  refine z_goto (tgt := 115) S dX3_readCondition_111 (by decide) ?_
  exact z_zret1 S (Prod.mk.inj (hr _ (Option.some.inj he).symm)) dX3_readCondition_115
set_option maxRecDepth 100000 in
set_option maxHeartbeats 4000000 in
theorem p_X3_readCondition_L12 {X : Cx} {p : Program} {l : Launch} {e : Env} {s : State} {m : MethodId} {args : Array Value} {below : List Frame} {meth : Method} {c : Code} (S : SB X 0 p s m args meth c cX3_readCondition 3 (some .boolean) RX3) {M : Mm} {N : Mm} {r : Bool} {v1 : Nat} {v2 : Int32} {x : (Mm × Int32) ⊕ ((Bool × Mm) ⊕ Mm)} (h_v1 : OK 0 v1 2) (he : f_X3_readCondition_L12 M v1 v2 = some x) (hc : ∀ b, x = .inl b → Z X 0 p l e rm_X3_readCondition s m args below meth c 0 0 (MQ below (QI X 0 (bI r) N s.heap.size) args s 0 0 (AA X 0 s.heap.size)) 3 b.1 12 [(0, .ref (X.2.2 102)), (1, .ref (X.2.2 v1)), (2, .int b.2)] []) (hx : ∀ b, x = .inr (.inr b) → Z X 0 p l e rm_X3_readCondition s m args below meth c 0 0 (MQ below (QI X 0 (bI r) N s.heap.size) args s 0 0 (AA X 0 s.heap.size)) 3 b 136 [(0, .ref (X.2.2 102))] []) (hr : ∀ v, x = .inr (.inl v) → v = (r, N)) : Z X 0 p l e rm_X3_readCondition s m args below meth c 0 0 (MQ below (QI X 0 (bI r) N s.heap.size) args s 0 0 (AA X 0 s.heap.size)) 3 M 12 [(0, .ref (X.2.2 102)), (1, .ref (X.2.2 v1)), (2, .int v2)] [] := by
  unfold f_X3_readCondition_L12 at he
  refine z_iload_n S dX3_readCondition_12 rfl 2 rfl ?_
  refine z_sipush (v := 400) S dX3_readCondition_13 (by decide) ?_
  refine z_icmp_ge (tgt := 136) S he dX3_readCondition_16 (by decide) (fun he => ?_) (fun he => ?_)
  · refine z_lv (ks := [0]) rfl ?_
    exact hx _ (Option.some.inj he).symm
  · refine z_aload_n S dX3_readCondition_19 rfl 0 rfl ?_
    obtain ⟨⟨r3, M4⟩, h9, he⟩ := bnd he
    dsimp only at he
    refine z_cVI (As := []) S cv_RX3_87 (K_X3_readOpenings  h9) ok_102 (by decide) (q := (RX3, TX3, 4)) rfl rfl ⟨rfl, rfl⟩ ⟨Nat.le_of_ble_eq_true rfl, Nat.le_of_ble_eq_true rfl⟩ ⟨Nat.le_refl _, Nat.le_refl _⟩ rfl rfl (Nat.le_of_ble_eq_true rfl) dX3_readCondition_20 ?_
    refine z_ifb_eq (tgt := 34) S he dX3_readCondition_23 (by decide) (fun he => ?_) (fun he => ?_)
    · refine z_iconst (v := 0) S dX3_readCondition_34 (by decide) ?_
      exact z_zret0 S (Prod.mk.inj (hr _ (Option.some.inj he).symm)) dX3_readCondition_35
    · refine z_aload_n S dX3_readCondition_26 rfl 0 rfl ?_
      refine z_aload_n S dX3_readCondition_27 rfl 1 rfl ?_
      obtain ⟨⟨r5, M6⟩, h9, he⟩ := bnd he
      dsimp only at he
      refine z_cVI (As := [.ref (X.2.2 v1)]) S cv_RX3_90 (K_X3_readAtom h_v1 h9) ok_102 (by decide) (q := (RX3, TX3, 4)) rfl rfl ⟨rfl, rfl⟩ ⟨Nat.le_of_ble_eq_true rfl, Nat.le_of_ble_eq_true rfl⟩ ⟨Nat.le_refl _, Nat.le_refl _⟩ rfl rfl (Nat.le_of_ble_eq_true rfl) dX3_readCondition_28 ?_
      refine z_ifb_ne (tgt := 36) S he dX3_readCondition_31 (by decide) (fun he => ?_) (fun he => ?_)
      · refine z_aload_n S dX3_readCondition_36 rfl 0 rfl ?_
        refine z_aload_n S dX3_readCondition_37 rfl 1 rfl ?_
        obtain ⟨M7, h9, he⟩ := bnd he
        refine z_cVV (As := [.ref (X.2.2 v1)]) S cv_RX3_93 (K_X3_readClosings h_v1 h9) ok_102 (by decide) (q := (RX3, TX3, 4)) rfl rfl ⟨rfl, rfl⟩ ⟨Nat.le_of_ble_eq_true rfl, Nat.le_of_ble_eq_true rfl⟩ ⟨Nat.le_refl _, Nat.le_refl _⟩ rfl rfl (Nat.le_of_ble_eq_true rfl) dX3_readCondition_38 ?_
        refine z_aload_n S dX3_readCondition_41 rfl 0 rfl ?_
        refine z_getF (j := 104) S fo_RX3_14 2 rfl rfl ok_102 dX3_readCondition_42 ?_
        refine z_getWd S fo_RX3_30 rfl ok_104 he dX3_readCondition_45 (fun q8 hq8 he => ?_)
        refine z_getW (i := 14) (j := 314) S (by decide) rfl rfl gw_RX3_97 dX3_readCondition_48 ?_
        refine z_acmp_ne (tgt := 72) S hq8 (isW_add (i := 14) (by decide)) he dX3_readCondition_51 (by decide) (fun he => ?_) (fun he => ?_)
        · refine z_aload_n S dX3_readCondition_72 rfl 0 rfl ?_
          refine z_aload_n S dX3_readCondition_73 rfl 1 rfl ?_
          refine z_sipush (v := 1025) S dX3_readCondition_74 (by decide) ?_
          obtain ⟨M9, h9, he⟩ := bnd he
          refine z_cVV (As := [.ref (X.2.2 v1), .int 1025]) S cv_RX3_100 (K_X3_settle h_v1 h9) ok_102 (by decide) (q := (RX3, TX3, 4)) rfl rfl ⟨rfl, rfl⟩ ⟨Nat.le_of_ble_eq_true rfl, Nat.le_of_ble_eq_true rfl⟩ ⟨Nat.le_refl _, Nat.le_refl _⟩ rfl rfl (Nat.le_of_ble_eq_true rfl) dX3_readCondition_77 ?_
          refine z_aload_n S dX3_readCondition_80 rfl 0 rfl ?_
          refine z_getF (j := 104) S fo_RX3_14 2 rfl rfl ok_102 dX3_readCondition_81 ?_
          refine z_getWd S fo_RX3_30 rfl ok_104 he dX3_readCondition_84 (fun q10 hq10 he => ?_)
          refine z_getW (i := 15) (j := 315) S (by decide) rfl rfl gw_RX3_108 dX3_readCondition_87 ?_
          refine z_acmp_eq (tgt := 116) S hq10 (isW_add (i := 15) (by decide)) he dX3_readCondition_90 (by decide) (fun he => ?_) (fun he => ?_)
          · refine z_aload_n S dX3_readCondition_116 rfl 0 rfl ?_
            refine z_sipush (v := 1025) S dX3_readCondition_117 (by decide) ?_
            obtain ⟨M11, h9, he⟩ := bnd he
            refine z_cVV (As := [.int 1025]) S cv_RX3_104 (K_X3_leaveOpen  h9) ok_102 (by decide) (q := (RX3, TX3, 4)) rfl rfl ⟨rfl, rfl⟩ ⟨Nat.le_of_ble_eq_true rfl, Nat.le_of_ble_eq_true rfl⟩ ⟨Nat.le_refl _, Nat.le_refl _⟩ rfl rfl (Nat.le_of_ble_eq_true rfl) dX3_readCondition_120 ?_
            exact p_X3_readCondition_J12_123 S h_v1 he hc hx hr
          · refine z_aload_n S dX3_readCondition_93 rfl 0 rfl ?_
            refine z_getI S fo_RX3_80 rfl ok_102 dX3_readCondition_94 ?_
            refine z_if_eq (tgt := 110) S he dX3_readCondition_97 (by decide) (fun he => ?_) (fun he => ?_)
            · refine z_lv (ks := []) rfl ?_
              exact p_X3_readCondition_J12_110 S  he hc hx hr
            · refine z_aload_n S dX3_readCondition_100 rfl 0 rfl ?_
              refine z_getF (j := 104) S fo_RX3_14 2 rfl rfl ok_102 dX3_readCondition_101 ?_
              obtain ⟨⟨r13, M14⟩, h9, he⟩ := bnd he
              dsimp only at he
              refine z_cVI (As := []) S cv_RX3_50 (K_X7_refuse ok_104 (Option.some.inj h9)) ok_104 (by decide) (q := (RX7, TX7, 9)) rfl rfl ⟨rfl, rfl⟩ ⟨Nat.le_of_ble_eq_true rfl, Nat.le_of_ble_eq_true rfl⟩ ⟨Nat.le_refl _, Nat.le_refl _⟩ rfl rfl (Nat.le_of_ble_eq_true rfl) dX3_readCondition_104 ?_
              refine z_ifb_eq (tgt := 114) S he dX3_readCondition_107 (by decide) (fun he => ?_) (fun he => ?_)
              · refine z_iconst (v := 0) S dX3_readCondition_114 (by decide) ?_
                exact z_zret0 S (Prod.mk.inj (hr _ (Option.some.inj he).symm)) dX3_readCondition_115
              · refine z_lv (ks := []) rfl ?_
                exact p_X3_readCondition_J12_110 S  he hc hx hr
        · refine z_aload_n S dX3_readCondition_54 rfl 0 rfl ?_
          refine z_aload_n S dX3_readCondition_55 rfl 1 rfl ?_
          refine z_sipush (v := 1024) S dX3_readCondition_56 (by decide) ?_
          obtain ⟨M15, h9, he⟩ := bnd he
          refine z_cVV (As := [.ref (X.2.2 v1), .int 1024]) S cv_RX3_100 (K_X3_settle h_v1 h9) ok_102 (by decide) (q := (RX3, TX3, 4)) rfl rfl ⟨rfl, rfl⟩ ⟨Nat.le_of_ble_eq_true rfl, Nat.le_of_ble_eq_true rfl⟩ ⟨Nat.le_refl _, Nat.le_refl _⟩ rfl rfl (Nat.le_of_ble_eq_true rfl) dX3_readCondition_59 ?_
          refine z_aload_n S dX3_readCondition_62 rfl 0 rfl ?_
          refine z_sipush (v := 1024) S dX3_readCondition_63 (by decide) ?_
          obtain ⟨M16, h9, he⟩ := bnd he
          refine z_cVV (As := [.int 1024]) S cv_RX3_104 (K_X3_leaveOpen  h9) ok_102 (by decide) (q := (RX3, TX3, 4)) rfl rfl ⟨rfl, rfl⟩ ⟨Nat.le_of_ble_eq_true rfl, Nat.le_of_ble_eq_true rfl⟩ ⟨Nat.le_refl _, Nat.le_refl _⟩ rfl rfl (Nat.le_of_ble_eq_true rfl) dX3_readCondition_66 ?_
          refine z_goto (tgt := 123) S dX3_readCondition_69 (by decide) ?_
          exact p_X3_readCondition_J12_123 S h_v1 he hc hx hr
      · refine z_iconst (v := 0) S dX3_readCondition_34 (by decide) ?_
        exact z_zret0 S (Prod.mk.inj (hr _ (Option.some.inj he).symm)) dX3_readCondition_35
set_option maxRecDepth 100000 in
set_option maxHeartbeats 4000000 in
theorem K_X3_readCondition {X : Cx} {l : Launch} {M : Mm} {a1 : Nat} {r : Bool} {N : Mm} (h_a1 : OK 0 a1 2) (he : f_X3_readCondition M a1 = some (r, N)) : KI X 0 l yX3_readCondition (wz yX3_readCondition cX3_readCondition 3 (some .boolean)) rm_X3_readCondition [.ref (X.2.2 102), .ref (X.2.2 a1)] M (bI r) N := by
  intro sz
  refine K_of (Qc := (fun sz => QI X 0 (bI r) N sz)) (own := RX3) (lv0 := [(0, .ref (X.2.2 102)), (1, .ref (X.2.2 a1))]) (by decide +kernel) rfl (Nat.le_of_ble_eq_true rfl) rfl (fun p e s m args below meth c S => ?_) sz
  · unfold f_X3_readCondition at he
    refine z_aload_n S dX3_readCondition_0 rfl 0 rfl ?_
    refine z_iconst (v := 0) S dX3_readCondition_1 (by decide) ?_
    refine z_putIb S fo_RX3_80p rfl ok_102 rfl rfl he dX3_readCondition_2 (fun M1 he => ?_)
    refine z_aload_n S dX3_readCondition_5 rfl 0 rfl ?_
    refine z_iconst (v := 0) S dX3_readCondition_6 (by decide) ?_
    refine z_putIb S fo_RX3_84p rfl ok_102 rfl rfl he dX3_readCondition_7 (fun M2 he => ?_)
    refine z_iconst (v := 0) S dX3_readCondition_10 (by decide) ?_
    refine z_istore_n (lv' := [(0, .ref (X.2.2 102)), (1, .ref (X.2.2 a1)), (2, .int 0)]) S [1, 2, 0] dX3_readCondition_11 rfl (by decide) rfl ?_
    obtain ⟨r9, hl, hr1, hr2⟩ := bndS he
    have hX : ∀ e_17, r9 = .inr e_17 → Z X 0 p l e rm_X3_readCondition s m args below meth c 0 0 (MQ below (QI X 0 (bI r) N s.heap.size) args s 0 0 (AA X 0 s.heap.size)) 3 e_17 136 [(0, .ref (X.2.2 102))] [] := by
      intro e_17 hre
      have he := hr2 e_17 hre
      refine z_aload_n S dX3_readCondition_136 rfl 0 rfl ?_
      refine z_getF (j := 104) S fo_RX3_14 2 rfl rfl ok_102 dX3_readCondition_137 ?_
      obtain ⟨⟨r18, M19⟩, h9, he⟩ := bnd he
      dsimp only at he
      refine z_cVI (As := []) S cv_RX3_50 (K_X7_refuse ok_104 (Option.some.inj h9)) ok_104 (by decide) (q := (RX7, TX7, 9)) rfl rfl ⟨rfl, rfl⟩ ⟨Nat.le_of_ble_eq_true rfl, Nat.le_of_ble_eq_true rfl⟩ ⟨Nat.le_refl _, Nat.le_refl _⟩ rfl rfl (Nat.le_of_ble_eq_true rfl) dX3_readCondition_140 ?_
      exact z_zret S (Prod.mk.inj (Option.some.inj he)) dX3_readCondition_143
    have hZ9 := loopZ (f := (fun a_17 => f_X3_readCondition_L12 a_17.1 a1 a_17.2)) (Zh := (fun a_17 => Z X 0 p l e rm_X3_readCondition s m args below meth c 0 0 (MQ below (QI X 0 (bI r) N s.heap.size) args s 0 0 (AA X 0 s.heap.size)) 3 a_17.1 12 [(0, .ref (X.2.2 102)), (1, .ref (X.2.2 a1)), (2, .int a_17.2)] [])) (fun a_17 x hb hc hr9 => p_X3_readCondition_L12 S h_a1 hb hc (fun b hxe => hX b (hr9 _ hxe).symm) (fun v hxv => Option.some.inj (hr1 v (hr9 _ hxv).symm))) FU (M2, 0) hl
    exact hZ9
set_option maxRecDepth 100000 in
set_option maxHeartbeats 4000000 in
theorem p_X3_readLine_J150 {X : Cx} {p : Program} {l : Launch} {e : Env} {s : State} {m : MethodId} {args : Array Value} {below : List Frame} {meth : Method} {c : Code} (S : SB X 0 p s m args meth c cX3_readLine 5 (some .boolean) RX3) {M : Mm} {N : Mm} {r : Bool} {t0 : Int32} {t1 : Int32} {t2 : Nat} (h_t2 : OK 0 t2 2) (he : f_X3_readLine_J150 M t0 t1 t2 = some (r, N)) : Z X 0 p l e rm_X3_readLine s m args below meth c 0 0 (MQ below (QI X 0 (bI r) N s.heap.size) args s 0 0 (AA X 0 s.heap.size)) 5 M 150 [] [.int t0, .int t1, .ref (X.2.2 t2)] := by
  unfold f_X3_readLine_J150 at he
  obtain ⟨M9, h9, he⟩ := bnd he
  refine z_cVV (As := [.int t1, .int t0]) S cv_RX3_76 (K_X2_endLine h_t2 h9) h_t2 (by decide) (q := (RX2, TX2, 7)) rfl rfl ⟨rfl, rfl⟩ ⟨Nat.le_of_ble_eq_true rfl, Nat.le_of_ble_eq_true rfl⟩ ⟨Nat.le_refl _, Nat.le_refl _⟩ rfl rfl (Nat.le_of_ble_eq_true rfl) dX3_readLine_150 ?_
  refine z_iconst (v := 1) S dX3_readLine_153 (by decide) ?_
  exact z_zret1 S (Prod.mk.inj (Option.some.inj he)) dX3_readLine_154
set_option maxRecDepth 100000 in
set_option maxHeartbeats 4000000 in
theorem p_X3_readLine_J136 {X : Cx} {p : Program} {l : Launch} {e : Env} {s : State} {m : MethodId} {args : Array Value} {below : List Frame} {meth : Method} {c : Code} (S : SB X 0 p s m args meth c cX3_readLine 5 (some .boolean) RX3) {M : Mm} {N : Mm} {r : Bool} {v1 : Nat} {v2 : Int32} {v3 : Int32} {v4 : Int32} (h_v1 : OK 0 v1 2) (he : f_X3_readLine_J136 M v1 v2 v3 v4 = some (r, N)) : Z X 0 p l e rm_X3_readLine s m args below meth c 0 0 (MQ below (QI X 0 (bI r) N s.heap.size) args s 0 0 (AA X 0 s.heap.size)) 5 M 136 [(1, .ref (X.2.2 v1)), (2, .int v2), (3, .int v3), (4, .int v4)] [] := by
  unfold f_X3_readLine_J136 at he
  refine z_aload_n S dX3_readLine_136 rfl 0 rfl ?_
  refine z_iload_n S dX3_readLine_137 rfl 2 rfl ?_
  refine z_iload_n S dX3_readLine_138 rfl 1 rfl ?_
  refine z_if_eq (tgt := 147) S he dX3_readLine_139 (by decide) (fun he => ?_) (fun he => ?_)
  · refine z_iload S dX3_readLine_147 3 rfl ?_
    refine z_ineg S dX3_readLine_149 ?_
    refine z_lv (ks := []) rfl ?_
    exact p_X3_readLine_J150 S h_v1 he
  · refine z_iload S dX3_readLine_142 3 rfl ?_
    refine z_goto (tgt := 150) S dX3_readLine_144 (by decide) ?_
    refine z_lv (ks := []) rfl ?_
    exact p_X3_readLine_J150 S h_v1 he
set_option maxRecDepth 100000 in
set_option maxHeartbeats 4000000 in
theorem p_X3_readLine_J73 {X : Cx} {p : Program} {l : Launch} {e : Env} {s : State} {m : MethodId} {args : Array Value} {below : List Frame} {meth : Method} {c : Code} (S : SB X 0 p s m args meth c cX3_readLine 5 (some .boolean) RX3) {M : Mm} {N : Mm} {r : Bool} {v1 : Nat} {v2 : Int32} {v3 : Int32} (h_v1 : OK 0 v1 2) (he : f_X3_readLine_J73 M v1 v2 v3 = some (r, N)) : Z X 0 p l e rm_X3_readLine s m args below meth c 0 0 (MQ below (QI X 0 (bI r) N s.heap.size) args s 0 0 (AA X 0 s.heap.size)) 5 M 73 [(0, .ref (X.2.2 102)), (1, .ref (X.2.2 v1)), (2, .int v2), (3, .int v3)] [] := by
  unfold f_X3_readLine_J73 at he
  refine z_aload_n S dX3_readLine_73 rfl 0 rfl ?_
  refine z_getF (j := 104) S fo_RX3_14 2 rfl rfl ok_102 dX3_readLine_74 ?_
  obtain ⟨M4, h9, he⟩ := bnd he
  refine z_cVV (As := []) S cv_RX3_67 (K_X7_next ok_104 h9) ok_104 (by decide) (q := (RX7, TX7, 9)) rfl rfl ⟨rfl, rfl⟩ ⟨Nat.le_of_ble_eq_true rfl, Nat.le_of_ble_eq_true rfl⟩ ⟨Nat.le_refl _, Nat.le_refl _⟩ rfl rfl (Nat.le_of_ble_eq_true rfl) dX3_readLine_77 ?_
  refine z_aload_n S dX3_readLine_80 rfl 0 rfl ?_
  refine z_getF (j := 104) S fo_RX3_14 2 rfl rfl ok_102 dX3_readLine_81 ?_
  refine z_iconst (v := 0) S dX3_readLine_84 (by decide) ?_
  refine z_bipush (v := 99) S dX3_readLine_85 (by decide) ?_
  obtain ⟨r5, h9, he⟩ := bnd he
  refine z_cVI (As := [.int 0, .int 99]) S cv_RX3_60 (K_X7_numberWithin ok_104 h9) ok_104 (by decide) (q := (RX7, TX7, 9)) rfl rfl ⟨rfl, rfl⟩ ⟨Nat.le_of_ble_eq_true rfl, Nat.le_of_ble_eq_true rfl⟩ ⟨Nat.le_refl _, Nat.le_refl _⟩ rfl rfl (Nat.le_of_ble_eq_true rfl) dX3_readLine_87 ?_
  refine z_istore (lv' := [(0, .ref (X.2.2 102)), (1, .ref (X.2.2 v1)), (2, .int v2), (3, .int v3), (4, .int r5)]) S [1, 2, 3, 4, 0] dX3_readLine_90 (by decide) rfl ?_
  refine z_iload S dX3_readLine_92 4 rfl ?_
  refine z_iconst (v := (-1)) S dX3_readLine_94 (by decide) ?_
  refine z_icmp_ne (tgt := 106) S he dX3_readLine_95 (by decide) (fun he => ?_) (fun he => ?_)
  · refine z_aload_n S dX3_readLine_106 rfl 0 rfl ?_
    refine z_getF (j := 104) S fo_RX3_14 2 rfl rfl ok_102 dX3_readLine_107 ?_
    obtain ⟨M6, h9, he⟩ := bnd he
    refine z_cVV (As := []) S cv_RX3_67 (K_X7_next ok_104 h9) ok_104 (by decide) (q := (RX7, TX7, 9)) rfl rfl ⟨rfl, rfl⟩ ⟨Nat.le_of_ble_eq_true rfl, Nat.le_of_ble_eq_true rfl⟩ ⟨Nat.le_refl _, Nat.le_refl _⟩ rfl rfl (Nat.le_of_ble_eq_true rfl) dX3_readLine_110 ?_
    refine z_aload_n S dX3_readLine_113 rfl 0 rfl ?_
    refine z_getF (j := 104) S fo_RX3_14 2 rfl rfl ok_102 dX3_readLine_114 ?_
    refine z_getW (i := 12) (j := 312) S (by decide) rfl rfl gw_RX3_70 dX3_readLine_117 ?_
    obtain ⟨⟨r7, M8⟩, h9, he⟩ := bnd he
    dsimp only at he
    refine z_cVI (As := [.ref (X.2.2 312)]) S cv_RX3_46 (K_X7_skip ok_104 (isW_add (i := 12) (by decide)) h9) ok_104 (by decide) (q := (RX7, TX7, 9)) rfl rfl ⟨rfl, rfl⟩ ⟨Nat.le_of_ble_eq_true rfl, Nat.le_of_ble_eq_true rfl⟩ ⟨Nat.le_refl _, Nat.le_refl _⟩ rfl rfl (Nat.le_of_ble_eq_true rfl) dX3_readLine_120 ?_
    refine z_ifb_eq (tgt := 136) S he dX3_readLine_123 (by decide) (fun he => ?_) (fun he => ?_)
    · refine z_lv (ks := [1, 2, 3, 4]) rfl ?_
      exact p_X3_readLine_J136 S h_v1 he
    · refine z_aload_n S dX3_readLine_126 rfl 0 rfl ?_
      refine z_aload_n S dX3_readLine_127 rfl 1 rfl ?_
      obtain ⟨⟨r10, M11⟩, h9, he⟩ := bnd he
      dsimp only at he
      refine z_cVI (As := [.ref (X.2.2 v1)]) S cv_RX3_73 (K_X3_readCondition h_v1 h9) ok_102 (by decide) (q := (RX3, TX3, 4)) rfl rfl ⟨rfl, rfl⟩ ⟨Nat.le_of_ble_eq_true rfl, Nat.le_of_ble_eq_true rfl⟩ ⟨Nat.le_refl _, Nat.le_refl _⟩ rfl rfl (Nat.le_of_ble_eq_true rfl) dX3_readLine_128 ?_
      refine z_ifb_ne (tgt := 136) S he dX3_readLine_131 (by decide) (fun he => ?_) (fun he => ?_)
      · refine z_lv (ks := [1, 2, 3, 4]) rfl ?_
        exact p_X3_readLine_J136 S h_v1 he
      · refine z_iconst (v := 0) S dX3_readLine_134 (by decide) ?_
        exact z_zret0 S (Prod.mk.inj (Option.some.inj he)) dX3_readLine_135
  · refine z_aload_n S dX3_readLine_98 rfl 0 rfl ?_
    refine z_getF (j := 104) S fo_RX3_14 2 rfl rfl ok_102 dX3_readLine_99 ?_
    obtain ⟨⟨r12, M13⟩, h9, he⟩ := bnd he
    dsimp only at he
    refine z_cVI (As := []) S cv_RX3_50 (K_X7_refuse ok_104 (Option.some.inj h9)) ok_104 (by decide) (q := (RX7, TX7, 9)) rfl rfl ⟨rfl, rfl⟩ ⟨Nat.le_of_ble_eq_true rfl, Nat.le_of_ble_eq_true rfl⟩ ⟨Nat.le_refl _, Nat.le_refl _⟩ rfl rfl (Nat.le_of_ble_eq_true rfl) dX3_readLine_102 ?_
    exact z_zret S (Prod.mk.inj (Option.some.inj he)) dX3_readLine_105
set_option maxRecDepth 100000 in
set_option maxHeartbeats 4000000 in
theorem p_X3_readLine_J36 {X : Cx} {p : Program} {l : Launch} {e : Env} {s : State} {m : MethodId} {args : Array Value} {below : List Frame} {meth : Method} {c : Code} (S : SB X 0 p s m args meth c cX3_readLine 5 (some .boolean) RX3) {M : Mm} {N : Mm} {r : Bool} {v1 : Nat} {v2 : Int32} (h_v1 : OK 0 v1 2) (he : f_X3_readLine_J36 M v1 v2 = some (r, N)) : Z X 0 p l e rm_X3_readLine s m args below meth c 0 0 (MQ below (QI X 0 (bI r) N s.heap.size) args s 0 0 (AA X 0 s.heap.size)) 5 M 36 [(0, .ref (X.2.2 102)), (1, .ref (X.2.2 v1)), (2, .int v2)] [] := by
  unfold f_X3_readLine_J36 at he
  refine z_aload_n S dX3_readLine_36 rfl 0 rfl ?_
  refine z_getF (j := 104) S fo_RX3_14 2 rfl rfl ok_102 dX3_readLine_37 ?_
  refine z_iconst (v := 0) S dX3_readLine_40 (by decide) ?_
  refine z_bipush (v := 8) S dX3_readLine_41 (by decide) ?_
  obtain ⟨r3, h9, he⟩ := bnd he
  refine z_cVI (As := [.int 0, .int 8]) S cv_RX3_60 (K_X7_numberWithin ok_104 h9) ok_104 (by decide) (q := (RX7, TX7, 9)) rfl rfl ⟨rfl, rfl⟩ ⟨Nat.le_of_ble_eq_true rfl, Nat.le_of_ble_eq_true rfl⟩ ⟨Nat.le_refl _, Nat.le_refl _⟩ rfl rfl (Nat.le_of_ble_eq_true rfl) dX3_readLine_43 ?_
  refine z_istore_n (lv' := [(0, .ref (X.2.2 102)), (1, .ref (X.2.2 v1)), (2, .int v2), (3, .int r3)]) S [1, 2, 3, 0] dX3_readLine_46 rfl (by decide) rfl ?_
  refine z_iload_n S dX3_readLine_47 rfl 3 rfl ?_
  refine z_iconst (v := (-1)) S dX3_readLine_48 (by decide) ?_
  refine z_icmp_ne (tgt := 73) S he dX3_readLine_49 (by decide) (fun he => ?_) (fun he => ?_)
  · exact p_X3_readLine_J73 S h_v1 he
  · refine z_aload_n S dX3_readLine_52 rfl 0 rfl ?_
    refine z_getF (j := 104) S fo_RX3_14 2 rfl rfl ok_102 dX3_readLine_53 ?_
    refine z_getWd S fo_RX3_30 rfl ok_104 he dX3_readLine_56 (fun q14 hq14 he => ?_)
    refine z_getW (i := 11) (j := 311) S (by decide) rfl rfl gw_RX3_64 dX3_readLine_59 ?_
    refine z_acmp_eq (tgt := 73) S hq14 (isW_add (i := 11) (by decide)) he dX3_readLine_62 (by decide) (fun he => ?_) (fun he => ?_)
    · exact p_X3_readLine_J73 S h_v1 he
    · refine z_aload_n S dX3_readLine_65 rfl 0 rfl ?_
      refine z_getF (j := 104) S fo_RX3_14 2 rfl rfl ok_102 dX3_readLine_66 ?_
      obtain ⟨⟨r15, M16⟩, h9, he⟩ := bnd he
      dsimp only at he
      refine z_cVI (As := []) S cv_RX3_50 (K_X7_refuse ok_104 (Option.some.inj h9)) ok_104 (by decide) (q := (RX7, TX7, 9)) rfl rfl ⟨rfl, rfl⟩ ⟨Nat.le_of_ble_eq_true rfl, Nat.le_of_ble_eq_true rfl⟩ ⟨Nat.le_refl _, Nat.le_refl _⟩ rfl rfl (Nat.le_of_ble_eq_true rfl) dX3_readLine_69 ?_
      exact z_zret S (Prod.mk.inj (Option.some.inj he)) dX3_readLine_72
set_option maxRecDepth 100000 in
set_option maxHeartbeats 4000000 in
theorem K_X3_readLine {X : Cx} {l : Launch} {M : Mm} {a1 : Nat} {r : Bool} {N : Mm} (h_a1 : OK 0 a1 2) (he : f_X3_readLine M a1 = some (r, N)) : KI X 0 l yX3_readLine (wz yX3_readLine cX3_readLine 5 (some .boolean)) rm_X3_readLine [.ref (X.2.2 102), .ref (X.2.2 a1)] M (bI r) N := by
  intro sz
  refine K_of (Qc := (fun sz => QI X 0 (bI r) N sz)) (own := RX3) (lv0 := [(0, .ref (X.2.2 102)), (1, .ref (X.2.2 a1))]) (by decide +kernel) rfl (Nat.le_of_ble_eq_true rfl) rfl (fun p e s m args below meth c S => ?_) sz
  · unfold f_X3_readLine at he
    refine z_aload_n S dX3_readLine_0 rfl 0 rfl ?_
    refine z_getF (j := 104) S fo_RX3_14 2 rfl rfl ok_102 dX3_readLine_1 ?_
    refine z_getW (i := 9) (j := 309) S (by decide) rfl rfl gw_RX3_54 dX3_readLine_4 ?_
    obtain ⟨⟨r1, M2⟩, h9, he⟩ := bnd he
    dsimp only at he
    refine z_cVI (As := [.ref (X.2.2 309)]) S cv_RX3_46 (K_X7_skip ok_104 (isW_add (i := 9) (by decide)) h9) ok_104 (by decide) (q := (RX7, TX7, 9)) rfl rfl ⟨rfl, rfl⟩ ⟨Nat.le_of_ble_eq_true rfl, Nat.le_of_ble_eq_true rfl⟩ ⟨Nat.le_refl _, Nat.le_refl _⟩ rfl rfl (Nat.le_of_ble_eq_true rfl) dX3_readLine_7 ?_
    refine z_istore_n (lv' := [(0, .ref (X.2.2 102)), (1, .ref (X.2.2 a1)), (2, .int (bI r1))]) S [1, 2, 0] dX3_readLine_10 rfl (by decide) rfl ?_
    refine z_iload_n S dX3_readLine_11 rfl 2 rfl ?_
    refine z_ifb_ne (tgt := 36) S he dX3_readLine_12 (by decide) (fun he => ?_) (fun he => ?_)
    · exact p_X3_readLine_J36 S h_a1 he
    · refine z_aload_n S dX3_readLine_15 rfl 0 rfl ?_
      refine z_getF (j := 104) S fo_RX3_14 2 rfl rfl ok_102 dX3_readLine_16 ?_
      refine z_getW (i := 10) (j := 310) S (by decide) rfl rfl gw_RX3_57 dX3_readLine_19 ?_
      obtain ⟨⟨r17, M18⟩, h9, he⟩ := bnd he
      dsimp only at he
      refine z_cVI (As := [.ref (X.2.2 310)]) S cv_RX3_46 (K_X7_skip ok_104 (isW_add (i := 10) (by decide)) h9) ok_104 (by decide) (q := (RX7, TX7, 9)) rfl rfl ⟨rfl, rfl⟩ ⟨Nat.le_of_ble_eq_true rfl, Nat.le_of_ble_eq_true rfl⟩ ⟨Nat.le_refl _, Nat.le_refl _⟩ rfl rfl (Nat.le_of_ble_eq_true rfl) dX3_readLine_22 ?_
      refine z_ifb_ne (tgt := 36) S he dX3_readLine_25 (by decide) (fun he => ?_) (fun he => ?_)
      · exact p_X3_readLine_J36 S h_a1 he
      · refine z_aload_n S dX3_readLine_28 rfl 0 rfl ?_
        refine z_getF (j := 104) S fo_RX3_14 2 rfl rfl ok_102 dX3_readLine_29 ?_
        obtain ⟨⟨r19, M20⟩, h9, he⟩ := bnd he
        dsimp only at he
        refine z_cVI (As := []) S cv_RX3_50 (K_X7_refuse ok_104 (Option.some.inj h9)) ok_104 (by decide) (q := (RX7, TX7, 9)) rfl rfl ⟨rfl, rfl⟩ ⟨Nat.le_of_ble_eq_true rfl, Nat.le_of_ble_eq_true rfl⟩ ⟨Nat.le_refl _, Nat.le_refl _⟩ rfl rfl (Nat.le_of_ble_eq_true rfl) dX3_readLine_32 ?_
        exact z_zret S (Prod.mk.inj (Option.some.inj he)) dX3_readLine_35
set_option maxRecDepth 100000 in
set_option maxHeartbeats 4000000 in
theorem p_X3_readInto_L31 {X : Cx} {p : Program} {l : Launch} {e : Env} {s : State} {m : MethodId} {args : Array Value} {below : List Frame} {meth : Method} {c : Code} (S : SB X 0 p s m args meth c cX3_readInto 5 (some .boolean) RX3) {M : Mm} {N : Mm} {r : Bool} {v1 : Nat} {v4 : Int32} {x : (Mm × Int32) ⊕ ((Bool × Mm) ⊕ Mm)} (h_v1 : OK 0 v1 2) (he : f_X3_readInto_L31 M v1 v4 = some x) (hc : ∀ b, x = .inl b → Z X 0 p l e rm_X3_readInto s m args below meth c 0 0 (MQ below (QI X 0 (bI r) N s.heap.size) args s 0 0 (AA X 0 s.heap.size)) 5 b.1 31 [(0, .ref (X.2.2 102)), (1, .ref (X.2.2 v1)), (4, .int b.2)] []) (hx : ∀ b, x = .inr (.inr b) → Z X 0 p l e rm_X3_readInto s m args below meth c 0 0 (MQ below (QI X 0 (bI r) N s.heap.size) args s 0 0 (AA X 0 s.heap.size)) 5 b 90 [(0, .ref (X.2.2 102))] []) (hr : ∀ v, x = .inr (.inl v) → v = (r, N)) : Z X 0 p l e rm_X3_readInto s m args below meth c 0 0 (MQ below (QI X 0 (bI r) N s.heap.size) args s 0 0 (AA X 0 s.heap.size)) 5 M 31 [(0, .ref (X.2.2 102)), (1, .ref (X.2.2 v1)), (4, .int v4)] [] := by
  unfold f_X3_readInto_L31 at he
  refine z_iload S dX3_readInto_31 2 rfl ?_
  refine z_bipush (v := 12) S dX3_readInto_33 (by decide) ?_
  refine z_icmp_ge (tgt := 90) S he dX3_readInto_35 (by decide) (fun he => ?_) (fun he => ?_)
  · refine z_lv (ks := [0]) rfl ?_
    exact hx _ (Option.some.inj he).symm
  · refine z_aload_n S dX3_readInto_38 rfl 0 rfl ?_
    refine z_aload_n S dX3_readInto_39 rfl 1 rfl ?_
    obtain ⟨⟨r4, M5⟩, h9, he⟩ := bnd he
    dsimp only at he
    refine z_cVI (As := [.ref (X.2.2 v1)]) S cv_RX3_39 (K_X3_readLine h_v1 h9) ok_102 (by decide) (q := (RX3, TX3, 4)) rfl rfl ⟨rfl, rfl⟩ ⟨Nat.le_of_ble_eq_true rfl, Nat.le_of_ble_eq_true rfl⟩ ⟨Nat.le_refl _, Nat.le_refl _⟩ rfl rfl (Nat.le_of_ble_eq_true rfl) dX3_readInto_40 ?_
    refine z_ifb_ne (tgt := 48) S he dX3_readInto_43 (by decide) (fun he => ?_) (fun he => ?_)
    · refine z_aload_n S dX3_readInto_48 rfl 0 rfl ?_
      refine z_getF (j := 104) S fo_RX3_14 2 rfl rfl ok_102 dX3_readInto_49 ?_
      refine z_getWd S fo_RX3_30 rfl ok_104 he dX3_readInto_52 (fun q6 hq6 he => ?_)
      refine z_getW (i := 30) (j := 330) S (by decide) rfl rfl gw_RX3_34 dX3_readInto_55 ?_
      refine z_acmp_ne (tgt := 63) S hq6 (isW_add (i := 30) (by decide)) he dX3_readInto_58 (by decide) (fun he => ?_) (fun he => ?_)
      · refine z_aload_n S dX3_readInto_63 rfl 0 rfl ?_
        refine z_getF (j := 104) S fo_RX3_14 2 rfl rfl ok_102 dX3_readInto_64 ?_
        refine z_getW (i := 22) (j := 322) S (by decide) rfl rfl gw_RX3_43 dX3_readInto_67 ?_
        obtain ⟨⟨r7, M8⟩, h9, he⟩ := bnd he
        dsimp only at he
        refine z_cVI (As := [.ref (X.2.2 322)]) S cv_RX3_46 (K_X7_skip ok_104 (isW_add (i := 22) (by decide)) h9) ok_104 (by decide) (q := (RX7, TX7, 9)) rfl rfl ⟨rfl, rfl⟩ ⟨Nat.le_of_ble_eq_true rfl, Nat.le_of_ble_eq_true rfl⟩ ⟨Nat.le_refl _, Nat.le_refl _⟩ rfl rfl (Nat.le_of_ble_eq_true rfl) dX3_readInto_70 ?_
        refine z_ifb_ne (tgt := 84) S he dX3_readInto_73 (by decide) (fun he => ?_) (fun he => ?_)
        · refine z_iinc (v := (v4 + 1)) (lv' := [(0, .ref (X.2.2 102)), (1, .ref (X.2.2 v1)), (4, .int (v4 + 1))]) S [1, 2, 0] 2 dX3_readInto_84 rfl (by rfl) (by decide) rfl ?_
          refine z_goto (tgt := 31) S dX3_readInto_87 (by decide) ?_
          refine z_lv (ks := [0, 1, 2]) rfl ?_
          exact hc _ (Option.some.inj he).symm
        · refine z_aload_n S dX3_readInto_76 rfl 0 rfl ?_
          refine z_getF (j := 104) S fo_RX3_14 2 rfl rfl ok_102 dX3_readInto_77 ?_
          obtain ⟨⟨r9, M10⟩, h9, he⟩ := bnd he
          dsimp only at he
          refine z_cVI (As := []) S cv_RX3_50 (K_X7_refuse ok_104 (Option.some.inj h9)) ok_104 (by decide) (q := (RX7, TX7, 9)) rfl rfl ⟨rfl, rfl⟩ ⟨Nat.le_of_ble_eq_true rfl, Nat.le_of_ble_eq_true rfl⟩ ⟨Nat.le_refl _, Nat.le_refl _⟩ rfl rfl (Nat.le_of_ble_eq_true rfl) dX3_readInto_80 ?_
          exact z_zret S (Prod.mk.inj (hr _ (Option.some.inj he).symm)) dX3_readInto_83
      · refine z_iconst (v := 1) S dX3_readInto_61 (by decide) ?_
        exact z_zret1 S (Prod.mk.inj (hr _ (Option.some.inj he).symm)) dX3_readInto_62
    · refine z_iconst (v := 0) S dX3_readInto_46 (by decide) ?_
      exact z_zret0 S (Prod.mk.inj (hr _ (Option.some.inj he).symm)) dX3_readInto_47
set_option maxRecDepth 100000 in
set_option maxHeartbeats 4000000 in
theorem K_X3_readInto {X : Cx} {l : Launch} {M : Mm} {a1 : Nat} {a2 : Nat} {a3 : Int32} {r : Bool} {N : Mm} (h_a1 : OK 0 a1 2) (h_a2 : OK 0 a2 30) (he : f_X3_readInto M a1 a2 a3 = some (r, N)) : KI X 0 l yX3_readInto (wz yX3_readInto cX3_readInto 5 (some .boolean)) rm_X3_readInto [.ref (X.2.2 102), .ref (X.2.2 a1), .ref (X.2.2 a2), .int a3] M (bI r) N := by
  intro sz
  refine K_of (Qc := (fun sz => QI X 0 (bI r) N sz)) (own := RX3) (lv0 := [(0, .ref (X.2.2 102)), (1, .ref (X.2.2 a1)), (2, .ref (X.2.2 a2)), (3, .int a3)]) (by decide +kernel) rfl (Nat.le_of_ble_eq_true rfl) rfl (fun p e s m args below meth c S => ?_) sz
  · unfold f_X3_readInto at he
    refine z_aload_n S dX3_readInto_0 rfl 1 rfl ?_
    obtain ⟨M1, h9, he⟩ := bnd he
    refine z_cVV (As := []) S cv_RX3_24 (K_X2_clear h_a1 h9) h_a1 (by decide) (q := (RX2, TX2, 7)) rfl rfl ⟨rfl, rfl⟩ ⟨Nat.le_of_ble_eq_true rfl, Nat.le_of_ble_eq_true rfl⟩ ⟨Nat.le_refl _, Nat.le_refl _⟩ rfl rfl (Nat.le_of_ble_eq_true rfl) dX3_readInto_1 ?_
    refine z_aload_n S dX3_readInto_4 rfl 0 rfl ?_
    refine z_getF (j := 104) S fo_RX3_14 2 rfl rfl ok_102 dX3_readInto_5 ?_
    refine z_aload_n S dX3_readInto_8 rfl 2 rfl ?_
    refine z_iload_n S dX3_readInto_9 rfl 3 rfl ?_
    obtain ⟨M2, h9, he⟩ := bnd he
    refine z_cVV (As := [.ref (X.2.2 a2), .int a3]) S cv_RX3_27 (K_X7_open ok_104 h_a2 h9) ok_104 (by decide) (q := (RX7, TX7, 9)) rfl rfl ⟨rfl, rfl⟩ ⟨Nat.le_of_ble_eq_true rfl, Nat.le_of_ble_eq_true rfl⟩ ⟨Nat.le_refl _, Nat.le_refl _⟩ rfl rfl (Nat.le_of_ble_eq_true rfl) dX3_readInto_10 ?_
    refine z_aload_n S dX3_readInto_13 rfl 0 rfl ?_
    refine z_getF (j := 104) S fo_RX3_14 2 rfl rfl ok_102 dX3_readInto_14 ?_
    refine z_getWd S fo_RX3_30 rfl ok_104 he dX3_readInto_17 (fun q3 hq3 he => ?_)
    refine z_getW (i := 30) (j := 330) S (by decide) rfl rfl gw_RX3_34 dX3_readInto_20 ?_
    refine z_acmp_ne (tgt := 28) S hq3 (isW_add (i := 30) (by decide)) he dX3_readInto_23 (by decide) (fun he => ?_) (fun he => ?_)
    · refine z_iconst (v := 0) S dX3_readInto_28 (by decide) ?_
      refine z_istore (lv' := [(0, .ref (X.2.2 102)), (1, .ref (X.2.2 a1)), (4, .int 0)]) S [1, 2, 0] dX3_readInto_29 (by decide) rfl ?_
      obtain ⟨r9, hl, hr1, hr2⟩ := bndS he
      have hX : ∀ e_11, r9 = .inr e_11 → Z X 0 p l e rm_X3_readInto s m args below meth c 0 0 (MQ below (QI X 0 (bI r) N s.heap.size) args s 0 0 (AA X 0 s.heap.size)) 5 e_11 90 [(0, .ref (X.2.2 102))] [] := by
        intro e_11 hre
        have he := hr2 e_11 hre
        refine z_aload_n S dX3_readInto_90 rfl 0 rfl ?_
        refine z_getF (j := 104) S fo_RX3_14 2 rfl rfl ok_102 dX3_readInto_91 ?_
        obtain ⟨⟨r12, M13⟩, h9, he⟩ := bnd he
        dsimp only at he
        refine z_cVI (As := []) S cv_RX3_50 (K_X7_refuse ok_104 (Option.some.inj h9)) ok_104 (by decide) (q := (RX7, TX7, 9)) rfl rfl ⟨rfl, rfl⟩ ⟨Nat.le_of_ble_eq_true rfl, Nat.le_of_ble_eq_true rfl⟩ ⟨Nat.le_refl _, Nat.le_refl _⟩ rfl rfl (Nat.le_of_ble_eq_true rfl) dX3_readInto_94 ?_
        exact z_zret S (Prod.mk.inj (Option.some.inj he)) dX3_readInto_97
      have hZ9 := loopZ (f := (fun a_11 => f_X3_readInto_L31 a_11.1 a1 a_11.2)) (Zh := (fun a_11 => Z X 0 p l e rm_X3_readInto s m args below meth c 0 0 (MQ below (QI X 0 (bI r) N s.heap.size) args s 0 0 (AA X 0 s.heap.size)) 5 a_11.1 31 [(0, .ref (X.2.2 102)), (1, .ref (X.2.2 a1)), (4, .int a_11.2)] [])) (fun a_11 x hb hc hr9 => p_X3_readInto_L31 S h_a1 hb hc (fun b hxe => hX b (hr9 _ hxe).symm) (fun v hxv => Option.some.inj (hr1 v (hr9 _ hxv).symm))) FU (M2, 0) hl
      exact hZ9
    · refine z_iconst (v := 1) S dX3_readInto_26 (by decide) ?_
      exact z_zret1 S (Prod.mk.inj (Option.some.inj he)) dX3_readInto_27
set_option maxRecDepth 100000 in
set_option maxHeartbeats 4000000 in
theorem K_X4_copyFrom {X : Cx} {l : Launch} {M : Mm} {a0 : Nat} {a1 : Nat} {N : Mm} (h_a0 : OK 0 a0 4) (h_a1 : OK 0 a1 4) (he : f_X4_copyFrom M a0 a1 = some N) : KV X 0 l yX4_copyFrom (wz yX4_copyFrom cX4_copyFrom 2 none) rm_X4_copyFrom [.ref (X.2.2 a0), .ref (X.2.2 a1)] M N := by
  intro sz
  refine K_of (Qc := (fun sz => QV X 0 N sz)) (own := RX4) (lv0 := [(0, .ref (X.2.2 a0)), (1, .ref (X.2.2 a1))]) (by decide +kernel) rfl (Nat.le_of_ble_eq_true rfl) rfl (fun p e s m args below meth c S => ?_) sz
  · unfold f_X4_copyFrom at he
    refine z_aload_n S dX4_copyFrom_0 rfl 1 rfl ?_
    refine z_getF (j := (a1 + 1)) S fo_RX4_9 1 rfl rfl h_a1 dX4_copyFrom_1 ?_
    refine z_iconst (v := 0) S dX4_copyFrom_4 (by decide) ?_
    refine z_aload_n S dX4_copyFrom_5 rfl 0 rfl ?_
    refine z_getF (j := (a0 + 1)) S fo_RX4_9 1 rfl rfl h_a0 dX4_copyFrom_6 ?_
    refine z_iconst (v := 0) S dX4_copyFrom_9 (by decide) ?_
    refine z_aload_n S dX4_copyFrom_10 rfl 0 rfl ?_
    refine z_getF (j := (a0 + 1)) S fo_RX4_9 1 rfl rfl h_a0 dX4_copyFrom_11 ?_
    refine z_alen (v := 45) S (okf4_1 h_a0).1 (cel_i (okf4_1 h_a0).1.2.2) rfl (okf4_1 h_a0).2 rfl dX4_copyFrom_14 ?_
    refine z_copyb S ca_RX4_28 (okf4_1 h_a1).1 (okf4_1 h_a0).1 (okf4_1 h_a1).2 (okf4_1 h_a0).2 (by decide) (by decide) (Nat.le_of_ble_eq_true rfl) (Nat.le_of_ble_eq_true rfl) he dX4_copyFrom_15 (fun M1 he => ?_)
    refine z_aload_n S dX4_copyFrom_18 rfl 1 rfl ?_
    refine z_getF (j := (a1 + 2)) S fo_RX4_15 2 rfl rfl h_a1 dX4_copyFrom_19 ?_
    refine z_iconst (v := 0) S dX4_copyFrom_22 (by decide) ?_
    refine z_aload_n S dX4_copyFrom_23 rfl 0 rfl ?_
    refine z_getF (j := (a0 + 2)) S fo_RX4_15 2 rfl rfl h_a0 dX4_copyFrom_24 ?_
    refine z_iconst (v := 0) S dX4_copyFrom_27 (by decide) ?_
    refine z_aload_n S dX4_copyFrom_28 rfl 0 rfl ?_
    refine z_getF (j := (a0 + 2)) S fo_RX4_15 2 rfl rfl h_a0 dX4_copyFrom_29 ?_
    refine z_alen (v := 50) S (okf4_2 h_a0).1 (cel_i (okf4_2 h_a0).1.2.2) rfl (okf4_2 h_a0).2 rfl dX4_copyFrom_32 ?_
    refine z_copyb S ca_RX4_28 (okf4_2 h_a1).1 (okf4_2 h_a0).1 (okf4_2 h_a1).2 (okf4_2 h_a0).2 (by decide) (by decide) (Nat.le_of_ble_eq_true rfl) (Nat.le_of_ble_eq_true rfl) he dX4_copyFrom_33 (fun M2 he => ?_)
    refine z_aload_n S dX4_copyFrom_36 rfl 1 rfl ?_
    refine z_getF (j := (a1 + 3)) S fo_RX4_18 3 rfl rfl h_a1 dX4_copyFrom_37 ?_
    refine z_iconst (v := 0) S dX4_copyFrom_40 (by decide) ?_
    refine z_aload_n S dX4_copyFrom_41 rfl 0 rfl ?_
    refine z_getF (j := (a0 + 3)) S fo_RX4_18 3 rfl rfl h_a0 dX4_copyFrom_42 ?_
    refine z_iconst (v := 0) S dX4_copyFrom_45 (by decide) ?_
    refine z_aload_n S dX4_copyFrom_46 rfl 0 rfl ?_
    refine z_getF (j := (a0 + 3)) S fo_RX4_18 3 rfl rfl h_a0 dX4_copyFrom_47 ?_
    refine z_alen (v := 300) S (okf4_3 h_a0).1 (cel_i (okf4_3 h_a0).1.2.2) rfl (okf4_3 h_a0).2 rfl dX4_copyFrom_50 ?_
    refine z_copyb S ca_RX4_28 (okf4_3 h_a1).1 (okf4_3 h_a0).1 (okf4_3 h_a1).2 (okf4_3 h_a0).2 (by decide) (by decide) (Nat.le_of_ble_eq_true rfl) (Nat.le_of_ble_eq_true rfl) he dX4_copyFrom_51 (fun M3 he => ?_)
    refine z_aload_n S dX4_copyFrom_54 rfl 0 rfl ?_
    refine z_aload_n S dX4_copyFrom_55 rfl 1 rfl ?_
    refine z_getI S fo_RX4_34 rfl h_a1 dX4_copyFrom_56 ?_
    refine z_putIb S fo_RX4_34p rfl h_a0 rfl rfl he dX4_copyFrom_59 (fun M4 he => ?_)
    refine z_aload_n S dX4_copyFrom_62 rfl 0 rfl ?_
    refine z_aload_n S dX4_copyFrom_63 rfl 1 rfl ?_
    refine z_getI S fo_RX4_37 rfl h_a1 dX4_copyFrom_64 ?_
    refine z_putIb S fo_RX4_37p rfl h_a0 rfl rfl he dX4_copyFrom_67 (fun M5 he => ?_)
    refine z_aload_n S dX4_copyFrom_70 rfl 0 rfl ?_
    refine z_aload_n S dX4_copyFrom_71 rfl 1 rfl ?_
    refine z_getI S fo_RX4_40 rfl h_a1 dX4_copyFrom_72 ?_
    refine z_putIb S fo_RX4_40p rfl h_a0 rfl rfl he dX4_copyFrom_75 (fun M6 he => ?_)
    refine z_aload_n S dX4_copyFrom_78 rfl 0 rfl ?_
    refine z_aload_n S dX4_copyFrom_79 rfl 1 rfl ?_
    refine z_getI S fo_RX4_21 rfl h_a1 dX4_copyFrom_80 ?_
    refine z_putIb S fo_RX4_21p rfl h_a0 rfl rfl he dX4_copyFrom_83 (fun M7 he => ?_)
    refine z_aload_n S dX4_copyFrom_86 rfl 0 rfl ?_
    refine z_aload_n S dX4_copyFrom_87 rfl 1 rfl ?_
    refine z_getI S fo_RX4_43 rfl h_a1 dX4_copyFrom_88 ?_
    refine z_putIb S fo_RX4_43p rfl h_a0 rfl rfl he dX4_copyFrom_91 (fun M8 he => ?_)
    refine z_aload_n S dX4_copyFrom_94 rfl 0 rfl ?_
    refine z_aload_n S dX4_copyFrom_95 rfl 1 rfl ?_
    refine z_getI S fo_RX4_25 rfl h_a1 dX4_copyFrom_96 ?_
    refine z_putIb S fo_RX4_25p rfl h_a0 rfl rfl he dX4_copyFrom_99 (fun M9 he => ?_)
    refine z_aload_n S dX4_copyFrom_102 rfl 0 rfl ?_
    refine z_aload_n S dX4_copyFrom_103 rfl 1 rfl ?_
    refine z_getI S fo_RX4_46 rfl h_a1 dX4_copyFrom_104 ?_
    refine z_putIb S fo_RX4_46p rfl h_a0 rfl rfl he dX4_copyFrom_107 (fun M10 he => ?_)
    exact z_vret S (Option.some.inj he) dX4_copyFrom_110
