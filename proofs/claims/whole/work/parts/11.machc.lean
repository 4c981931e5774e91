set_option maxRecDepth 100000 in
set_option maxHeartbeats 4000000 in
theorem K_X10_likesOne {X : Cx} {l : Launch} {M : Mm} {a1 : Int32} {a2 : Int32} {a3 : Int32} {r : Int32} {N : Mm}  (he : f_X10_likesOne M a1 a2 a3 = some (r, N)) : KI X 1 l yX10_likesOne (wz yX10_likesOne cX10_likesOne 6 (some .int)) rm_X10_likesOne [.ref (X.2.2 109), .int a1, .int a2, .int a3] M r N := by
  intro sz
  refine K_of (Qc := (fun sz => QI X 1 r N sz)) (own := RX10) (lv0 := [(0, .ref (X.2.2 109)), (1, .int a1), (2, .int a2), (3, .int a3)]) (by decide +kernel) rfl (Nat.le_of_ble_eq_true rfl) rfl (fun p e s m args below meth c S => ?_) sz
  · unfold f_X10_likesOne at he
    refine z_aload_n S dX10_likesOne_0 rfl 0 rfl ?_
    refine z_getF (j := 110) S fo_RX10_7 1 rfl rfl ok_109 dX10_likesOne_1 ?_
    refine z_iconst (v := 1) S dX10_likesOne_4 (by decide) ?_
    refine z_iald S ok_110 rfl he dX10_likesOne_5 (fun he => ?_)
    refine z_iconst (v := (-1)) S dX10_likesOne_6 (by decide) ?_
    refine z_icmp_ne (tgt := 17) S he dX10_likesOne_7 (by decide) (fun he => ?_) (fun he => ?_)
    · refine z_aload_n S dX10_likesOne_17 rfl 0 rfl ?_
      refine z_getF (j := 115) S fo_RX10_29 6 rfl rfl ok_109 dX10_likesOne_18 ?_
      refine z_iconst (v := 0) S dX10_likesOne_21 (by decide) ?_
      refine z_aload_n S dX10_likesOne_22 rfl 0 rfl ?_
      refine z_iload_n S dX10_likesOne_23 rfl 2 rfl ?_
      refine z_iconst (v := 0) S dX10_likesOne_24 (by decide) ?_
      obtain ⟨r1, h9, he⟩ := bnd he
      refine z_cVI (As := [.int a2, .int 0]) S cv_RX10_246 (K_X10_ofOne  h9) ok_109 (by decide) (q := (RX10, TX10, 28)) rfl rfl ⟨rfl, rfl⟩ ⟨Nat.le_of_ble_eq_true rfl, Nat.le_of_ble_eq_true rfl⟩ ⟨Nat.le_refl _, Nat.le_refl _⟩ rfl rfl (Nat.le_of_ble_eq_true rfl) dX10_likesOne_25 ?_
      refine z_iastb S ok_115 rfl he dX10_likesOne_28 (fun M2 he => ?_)
      refine z_aload_n S dX10_likesOne_29 rfl 0 rfl ?_
      refine z_getF (j := 115) S fo_RX10_29 6 rfl rfl ok_109 dX10_likesOne_30 ?_
      refine z_iconst (v := 1) S dX10_likesOne_33 (by decide) ?_
      refine z_aload_n S dX10_likesOne_34 rfl 0 rfl ?_
      refine z_iload_n S dX10_likesOne_35 rfl 2 rfl ?_
      refine z_iconst (v := 1) S dX10_likesOne_36 (by decide) ?_
      obtain ⟨r3, h9, he⟩ := bnd he
      refine z_cVI (As := [.int a2, .int 1]) S cv_RX10_246 (K_X10_ofOne  h9) ok_109 (by decide) (q := (RX10, TX10, 28)) rfl rfl ⟨rfl, rfl⟩ ⟨Nat.le_of_ble_eq_true rfl, Nat.le_of_ble_eq_true rfl⟩ ⟨Nat.le_refl _, Nat.le_refl _⟩ rfl rfl (Nat.le_of_ble_eq_true rfl) dX10_likesOne_37 ?_
      refine z_iastb S ok_115 rfl he dX10_likesOne_40 (fun M4 he => ?_)
      refine z_aload_n S dX10_likesOne_41 rfl 0 rfl ?_
      refine z_getF (j := 115) S fo_RX10_29 6 rfl rfl ok_109 dX10_likesOne_42 ?_
      refine z_iconst (v := 2) S dX10_likesOne_45 (by decide) ?_
      refine z_aload_n S dX10_likesOne_46 rfl 0 rfl ?_
      refine z_iload_n S dX10_likesOne_47 rfl 2 rfl ?_
      refine z_iconst (v := 2) S dX10_likesOne_48 (by decide) ?_
      obtain ⟨r5, h9, he⟩ := bnd he
      refine z_cVI (As := [.int a2, .int 2]) S cv_RX10_246 (K_X10_ofOne  h9) ok_109 (by decide) (q := (RX10, TX10, 28)) rfl rfl ⟨rfl, rfl⟩ ⟨Nat.le_of_ble_eq_true rfl, Nat.le_of_ble_eq_true rfl⟩ ⟨Nat.le_refl _, Nat.le_refl _⟩ rfl rfl (Nat.le_of_ble_eq_true rfl) dX10_likesOne_49 ?_
      refine z_iastb S ok_115 rfl he dX10_likesOne_52 (fun M6 he => ?_)
      refine z_aload_n S dX10_likesOne_53 rfl 0 rfl ?_
      refine z_getF (j := 115) S fo_RX10_29 6 rfl rfl ok_109 dX10_likesOne_54 ?_
      refine z_iconst (v := 3) S dX10_likesOne_57 (by decide) ?_
      refine z_aload_n S dX10_likesOne_58 rfl 0 rfl ?_
      refine z_iload_n S dX10_likesOne_59 rfl 1 rfl ?_
      refine z_iconst (v := 0) S dX10_likesOne_60 (by decide) ?_
      obtain ⟨r7, h9, he⟩ := bnd he
      refine z_cVI (As := [.int a1, .int 0]) S cv_RX10_70 (K_X10_of  h9) ok_109 (by decide) (q := (RX10, TX10, 28)) rfl rfl ⟨rfl, rfl⟩ ⟨Nat.le_of_ble_eq_true rfl, Nat.le_of_ble_eq_true rfl⟩ ⟨Nat.le_refl _, Nat.le_refl _⟩ rfl rfl (Nat.le_of_ble_eq_true rfl) dX10_likesOne_61 ?_
      refine z_iastb S ok_115 rfl he dX10_likesOne_64 (fun M8 he => ?_)
      refine z_aload_n S dX10_likesOne_65 rfl 0 rfl ?_
      refine z_getF (j := 115) S fo_RX10_29 6 rfl rfl ok_109 dX10_likesOne_66 ?_
      refine z_iconst (v := 4) S dX10_likesOne_69 (by decide) ?_
      refine z_aload_n S dX10_likesOne_70 rfl 0 rfl ?_
      refine z_iload_n S dX10_likesOne_71 rfl 1 rfl ?_
      refine z_iconst (v := 4) S dX10_likesOne_72 (by decide) ?_
      obtain ⟨r9, h9, he⟩ := bnd he
      refine z_cVI (As := [.int a1, .int 4]) S cv_RX10_70 (K_X10_of  h9) ok_109 (by decide) (q := (RX10, TX10, 28)) rfl rfl ⟨rfl, rfl⟩ ⟨Nat.le_of_ble_eq_true rfl, Nat.le_of_ble_eq_true rfl⟩ ⟨Nat.le_refl _, Nat.le_refl _⟩ rfl rfl (Nat.le_of_ble_eq_true rfl) dX10_likesOne_73 ?_
      refine z_iastb S ok_115 rfl he dX10_likesOne_76 (fun M10 he => ?_)
      refine z_aload_n S dX10_likesOne_77 rfl 0 rfl ?_
      refine z_getF (j := 115) S fo_RX10_29 6 rfl rfl ok_109 dX10_likesOne_78 ?_
      refine z_iconst (v := 5) S dX10_likesOne_81 (by decide) ?_
      refine z_aload_n S dX10_likesOne_82 rfl 0 rfl ?_
      refine z_getF (j := 110) S fo_RX10_7 1 rfl rfl ok_109 dX10_likesOne_83 ?_
      refine z_bipush (v := 6) S dX10_likesOne_86 (by decide) ?_
      refine z_iald S ok_110 rfl he dX10_likesOne_88 (fun he => ?_)
      refine z_iastb S ok_115 rfl he dX10_likesOne_89 (fun M11 he => ?_)
      refine z_aload_n S dX10_likesOne_90 rfl 0 rfl ?_
      refine z_iload_n S dX10_likesOne_91 rfl 1 rfl ?_
      refine z_putIb S fo_RX10_241p rfl ok_109 rfl rfl he dX10_likesOne_92 (fun M12 he => ?_)
      refine z_aload_n S dX10_likesOne_95 rfl 0 rfl ?_
      refine z_iload_n S dX10_likesOne_96 rfl 3 rfl ?_
      refine z_putIb S fo_RX10_208p rfl ok_109 rfl rfl he dX10_likesOne_97 (fun M13 he => ?_)
      refine z_aload_n S dX10_likesOne_100 rfl 0 rfl ?_
      refine z_iconst (v := 0) S dX10_likesOne_101 (by decide) ?_
      refine z_putIb S fo_RX10_244p rfl ok_109 rfl rfl he dX10_likesOne_102 (fun M14 he => ?_)
      refine z_aload_n S dX10_likesOne_105 rfl 0 rfl ?_
      refine z_getI S fo_RX10_25 rfl ok_109 dX10_likesOne_106 ?_
      refine z_istore (lv' := [(0, .ref (X.2.2 109)), (4, .int (gI M14 109 12))]) S [1, 0] dX10_likesOne_109 (by decide) rfl ?_
      refine z_aload_n S dX10_likesOne_111 rfl 0 rfl ?_
      refine z_iconst (v := (-1)) S dX10_likesOne_112 (by decide) ?_
      refine z_putIb S fo_RX10_25p rfl ok_109 rfl rfl he dX10_likesOne_113 (fun M15 he => ?_)
      refine z_aload_n S dX10_likesOne_116 rfl 0 rfl ?_
      refine z_sipush (v := 407) S dX10_likesOne_117 (by decide) ?_
      refine z_putIb S fo_RX10_77p rfl ok_109 rfl rfl he dX10_likesOne_120 (fun M16 he => ?_)
      refine z_aload_n S dX10_likesOne_123 rfl 0 rfl ?_
      refine z_aload_n S dX10_likesOne_124 rfl 0 rfl ?_
      refine z_getF (j := 110) S fo_RX10_7 1 rfl rfl ok_109 dX10_likesOne_125 ?_
      refine z_iconst (v := 2) S dX10_likesOne_128 (by decide) ?_
      refine z_iald S ok_110 rfl he dX10_likesOne_129 (fun he => ?_)
      refine z_putIb S fo_RX10_83p rfl ok_109 rfl rfl he dX10_likesOne_130 (fun M17 he => ?_)
      refine z_aload_n S dX10_likesOne_133 rfl 0 rfl ?_
      refine z_iconst (v := 0) S dX10_likesOne_134 (by decide) ?_
      refine z_putIb S fo_RX10_80p rfl ok_109 rfl rfl he dX10_likesOne_135 (fun M18 he => ?_)
      refine z_aload_n S dX10_likesOne_138 rfl 0 rfl ?_
      refine z_iconst (v := 0) S dX10_likesOne_139 (by decide) ?_
      refine z_putIb S fo_RX10_158p rfl ok_109 rfl rfl he dX10_likesOne_140 (fun M19 he => ?_)
      refine z_aload_n S dX10_likesOne_143 rfl 0 rfl ?_
      refine z_iconst (v := 1) S dX10_likesOne_144 (by decide) ?_
      obtain ⟨⟨r20, M21⟩, h9, he⟩ := bnd he
      dsimp only at he
      refine z_cVI (As := [.int 1]) S cv_RX10_177 (K_X10_read  h9) ok_109 (by decide) (q := (RX10, TX10, 28)) rfl rfl ⟨rfl, rfl⟩ ⟨Nat.le_of_ble_eq_true rfl, Nat.le_of_ble_eq_true rfl⟩ ⟨Nat.le_refl _, Nat.le_refl _⟩ rfl rfl (Nat.le_of_ble_eq_true rfl) dX10_likesOne_145 ?_
      refine z_istore (lv' := [(0, .ref (X.2.2 109)), (4, .int (gI M14 109 12))]) S [1, 2] dX10_likesOne_148 (by decide) rfl ?_
      refine z_aload_n S dX10_likesOne_150 rfl 0 rfl ?_
      refine z_iload S dX10_likesOne_151 1 rfl ?_
      refine z_putIb S fo_RX10_25p rfl ok_109 rfl rfl he dX10_likesOne_153 (fun M22 he => ?_)
      refine z_iconst (v := 0) S dX10_likesOne_156 (by decide) ?_
      refine z_aload_n S dX10_likesOne_157 rfl 0 rfl ?_
      refine z_getI S fo_RX10_244 rfl ok_109 dX10_likesOne_158 ?_
      refine z_cSI (As := [.int 0, .int (gI M22 109 17)]) S cs_RX10_249 (K_X10_greater  rfl) ⟨rfl, rfl⟩ ⟨Nat.le_of_ble_eq_true rfl, Nat.le_of_ble_eq_true rfl⟩ ⟨Nat.le_refl _, Nat.le_refl _⟩ rfl rfl (Nat.le_of_ble_eq_true rfl) dX10_likesOne_161 ?_
      exact z_iret S (Prod.mk.inj (Option.some.inj he)) dX10_likesOne_164
    · refine z_aload_n S dX10_likesOne_10 rfl 0 rfl ?_
      refine z_iload_n S dX10_likesOne_11 rfl 2 rfl ?_
      refine z_iconst (v := 1) S dX10_likesOne_12 (by decide) ?_
      obtain ⟨r23, h9, he⟩ := bnd he
      refine z_cVI (As := [.int a2, .int 1]) S cv_RX10_246 (K_X10_ofOne  h9) ok_109 (by decide) (q := (RX10, TX10, 28)) rfl rfl ⟨rfl, rfl⟩ ⟨Nat.le_of_ble_eq_true rfl, Nat.le_of_ble_eq_true rfl⟩ ⟨Nat.le_refl _, Nat.le_refl _⟩ rfl rfl (Nat.le_of_ble_eq_true rfl) dX10_likesOne_13 ?_
      exact z_iret S (Prod.mk.inj (Option.some.inj he)) dX10_likesOne_16
set_option maxRecDepth 100000 in
set_option maxHeartbeats 4000000 in
theorem K_X10_rings {X : Cx} {l : Launch} {M : Mm} {a1 : Int32} {a2 : Int32} {r : Bool}  (he : f_X10_rings M a1 a2 = some r) : KI X 1 l yX10_rings (wz yX10_rings cX10_rings 3 (some .boolean)) rm_X10_rings [.ref (X.2.2 109), .int a1, .int a2] M (bI r) M := by
  intro sz
  refine K_of (Qc := (fun sz => QI X 1 (bI r) M sz)) (own := RX10) (lv0 := [(0, .ref (X.2.2 109)), (1, .int a1), (2, .int a2)]) (by decide +kernel) rfl (Nat.le_of_ble_eq_true rfl) rfl (fun p e s m args below meth c S => ?_) sz
  · unfold f_X10_rings at he
    refine z_aload_n S dX10_rings_0 rfl 0 rfl ?_
    refine z_iload_n S dX10_rings_1 rfl 1 rfl ?_
    refine z_iconst (v := 3) S dX10_rings_2 (by decide) ?_
    obtain ⟨r1, h9, he⟩ := bnd he
    refine z_cVI (As := [.int a1, .int 3]) S cv_RX10_70 (K_X10_of  h9) ok_109 (by decide) (q := (RX10, TX10, 28)) rfl rfl ⟨rfl, rfl⟩ ⟨Nat.le_of_ble_eq_true rfl, Nat.le_of_ble_eq_true rfl⟩ ⟨Nat.le_refl _, Nat.le_refl _⟩ rfl rfl (Nat.le_of_ble_eq_true rfl) dX10_rings_3 ?_
    refine z_iconst (v := 1) S dX10_rings_6 (by decide) ?_
    refine z_icmp_ne (tgt := 35) S he dX10_rings_7 (by decide) (fun he => ?_) (fun he => ?_)
    · refine z_iconst (v := 0) S dX10_rings_35 (by decide) ?_
      exact z_zret0 S (⟨Option.some.inj he, rfl⟩) dX10_rings_36
    · refine z_iload_n S dX10_rings_10 rfl 2 rfl ?_
      refine z_if_le (tgt := 35) S he dX10_rings_11 (by decide) (fun he => ?_) (fun he => ?_)
      · refine z_iconst (v := 0) S dX10_rings_35 (by decide) ?_
        exact z_zret0 S (⟨Option.some.inj he, rfl⟩) dX10_rings_36
      · refine z_iload_n S dX10_rings_14 rfl 2 rfl ?_
        refine z_aload_n S dX10_rings_15 rfl 0 rfl ?_
        refine z_iload_n S dX10_rings_16 rfl 1 rfl ?_
        refine z_iconst (v := 1) S dX10_rings_17 (by decide) ?_
        obtain ⟨r2, h9, he⟩ := bnd he
        refine z_cVI (As := [.int a1, .int 1]) S cv_RX10_70 (K_X10_of  h9) ok_109 (by decide) (q := (RX10, TX10, 28)) rfl rfl ⟨rfl, rfl⟩ ⟨Nat.le_of_ble_eq_true rfl, Nat.le_of_ble_eq_true rfl⟩ ⟨Nat.le_refl _, Nat.le_refl _⟩ rfl rfl (Nat.le_of_ble_eq_true rfl) dX10_rings_18 ?_
        refine z_aload_n S dX10_rings_21 rfl 0 rfl ?_
        refine z_iload_n S dX10_rings_22 rfl 1 rfl ?_
        refine z_iconst (v := 4) S dX10_rings_23 (by decide) ?_
        obtain ⟨r3, h9, he⟩ := bnd he
        refine z_cVI (As := [.int a1, .int 4]) S cv_RX10_70 (K_X10_of  h9) ok_109 (by decide) (q := (RX10, TX10, 28)) rfl rfl ⟨rfl, rfl⟩ ⟨Nat.le_of_ble_eq_true rfl, Nat.le_of_ble_eq_true rfl⟩ ⟨Nat.le_refl _, Nat.le_refl _⟩ rfl rfl (Nat.le_of_ble_eq_true rfl) dX10_rings_24 ?_
        refine z_isub S dX10_rings_27 ?_
        refine z_icmp_lt (tgt := 35) S he dX10_rings_28 (by decide) (fun he => ?_) (fun he => ?_)
        · refine z_iconst (v := 0) S dX10_rings_35 (by decide) ?_
          exact z_zret0 S (⟨Option.some.inj he, rfl⟩) dX10_rings_36
        · refine z_iconst (v := 1) S dX10_rings_31 (by decide) ?_
          refine z_goto (tgt := 36) S dX10_rings_32 (by decide) ?_
          exact z_zret1 S (⟨Option.some.inj he, rfl⟩) dX10_rings_36
set_option maxRecDepth 100000 in
set_option maxHeartbeats 4000000 in
theorem p_X10_about_L79 {X : Cx} {p : Program} {l : Launch} {e : Env} {s : State} {m : MethodId} {args : Array Value} {below : List Frame} {meth : Method} {c : Code} (S : SB X 1 p s m args meth c cX10_about 11 (some .int) RX10) {M : Mm} {N : Mm} {r : Int32} {v1 : Int32} {v3 : Int32} {v4 : Int32} {v5 : Int32} {v6 : Int32} {v7 : Int32} {v8 : Int32} {v9 : Int32} {v10 : Int32} {x : (Mm × Int32 × Int32) ⊕ (Mm × Int32)}  (he : f_X10_about_L79 M v1 v3 v4 v5 v6 v7 v8 v9 v10 = some x) (hc : ∀ b, x = .inl b → Z X 1 p l e rm_X10_about s m args below meth c 0 0 (MQ below (QI X 1 r N s.heap.size) args s 0 0 (AA X 1 s.heap.size)) 11 b.1 79 [(0, .ref (X.2.2 109)), (1, .int v1), (3, .int v3), (4, .int v4), (5, .int v5), (6, .int v6), (7, .int v7), (8, .int v8), (9, .int b.2.1), (10, .int b.2.2)] []) (hx : ∀ b, x = .inr b → Z X 1 p l e rm_X10_about s m args below meth c 0 0 (MQ below (QI X 1 r N s.heap.size) args s 0 0 (AA X 1 s.heap.size)) 11 b.1 127 [(0, .ref (X.2.2 109)), (1, .int v1), (3, .int v3), (4, .int v4), (5, .int v5), (6, .int v6), (7, .int v7), (8, .int v8), (9, .int b.2)] []) : Z X 1 p l e rm_X10_about s m args below meth c 0 0 (MQ below (QI X 1 r N s.heap.size) args s 0 0 (AA X 1 s.heap.size)) 11 M 79 [(0, .ref (X.2.2 109)), (1, .int v1), (3, .int v3), (4, .int v4), (5, .int v5), (6, .int v6), (7, .int v7), (8, .int v8), (9, .int v9), (10, .int v10)] [] := by
  unfold f_X10_about_L79 at he
  refine z_iload S dX10_about_79 9 rfl ?_
  refine z_aload_n S dX10_about_81 rfl 0 rfl ?_
  refine z_getF (j := 110) S fo_RX10_7 1 rfl rfl ok_109 dX10_about_82 ?_
  refine z_iconst (v := 3) S dX10_about_85 (by decide) ?_
  refine z_iald S ok_110 rfl he dX10_about_86 (fun he => ?_)
  refine z_icmp_ge (tgt := 127) S he dX10_about_87 (by decide) (fun he => ?_) (fun he => ?_)
  · refine z_lv (ks := [0, 1, 2, 3, 4, 5, 6, 7, 8]) rfl ?_
    exact hx _ (Option.some.inj he).symm
  · refine z_iload S dX10_about_90 8 rfl ?_
    refine z_aload_n S dX10_about_92 rfl 0 rfl ?_
    refine z_iload S dX10_about_93 9 rfl ?_
    refine z_aload_n S dX10_about_95 rfl 0 rfl ?_
    refine z_iload S dX10_about_96 9 rfl ?_
    refine z_iload_n S dX10_about_98 rfl 1 rfl ?_
    refine z_iload S dX10_about_99 7 rfl ?_
    obtain ⟨⟨r4, M5⟩, h9, he⟩ := bnd he
    dsimp only at he
    refine z_cVI (As := [.int v10, .int v1, .int v8]) S cv_RX10_252 (K_X10_likesOne  h9) ok_109 (by decide) (q := (RX10, TX10, 28)) rfl rfl ⟨rfl, rfl⟩ ⟨Nat.le_of_ble_eq_true rfl, Nat.le_of_ble_eq_true rfl⟩ ⟨Nat.le_refl _, Nat.le_refl _⟩ rfl rfl (Nat.le_of_ble_eq_true rfl) dX10_about_101 ?_
    obtain ⟨r6, h9, he⟩ := bnd he
    refine z_cVI (As := [.int v10, .int r4]) S cv_RX10_256 (K_X10_rings  h9) ok_109 (by decide) (q := (RX10, TX10, 28)) rfl rfl ⟨rfl, rfl⟩ ⟨Nat.le_of_ble_eq_true rfl, Nat.le_of_ble_eq_true rfl⟩ ⟨Nat.le_refl _, Nat.le_refl _⟩ rfl rfl (Nat.le_of_ble_eq_true rfl) dX10_about_104 ?_
    refine z_ifb_eq (tgt := 117) S he dX10_about_107 (by decide) (fun he => ?_) (fun he => ?_)
    · refine z_iconst (v := 0) S dX10_about_117 (by decide) ?_
      refine z_ior S dX10_about_118 ?_
      refine z_istore (lv' := [(0, .ref (X.2.2 109)), (1, .int v1), (3, .int v3), (4, .int v4), (5, .int v5), (6, .int v6), (7, .int v7), (8, .int v8), (9, .int (v9 ||| 0)), (10, .int v10)]) S [1, 2, 3, 4, 5, 6, 7, 8, 0, 9] dX10_about_119 (by decide) rfl ?_
      refine z_iinc (v := (v10 + 1)) (lv' := [(0, .ref (X.2.2 109)), (1, .int v1), (3, .int v3), (4, .int v4), (5, .int v5), (6, .int v6), (7, .int v7), (8, .int v8), (9, .int (v9 ||| 0)), (10, .int (v10 + 1))]) S [1, 2, 3, 4, 5, 6, 7, 8, 9, 0] 9 dX10_about_121 rfl (by rfl) (by decide) rfl ?_
      refine z_goto (tgt := 79) S dX10_about_124 (by decide) ?_
      refine z_lv (ks := [0, 1, 2, 3, 4, 5, 6, 7, 8, 9]) rfl ?_
      exact hc _ (Option.some.inj he).symm
    · refine z_iconst (v := 1) S dX10_about_110 (by decide) ?_
      refine z_iload S dX10_about_111 9 rfl ?_
      refine z_ishl S dX10_about_113 ?_
      refine z_goto (tgt := 118) S dX10_about_114 (by decide) ?_
      refine z_ior S dX10_about_118 ?_
      obtain ⟨x7, ex7, he⟩ := bnd he
      rw [Option.some.inj ex7]
      refine z_istore (lv' := [(0, .ref (X.2.2 109)), (1, .int v1), (3, .int v3), (4, .int v4), (5, .int v5), (6, .int v6), (7, .int v7), (8, .int v8), (9, .int x7), (10, .int v10)]) S [1, 2, 3, 4, 5, 6, 7, 8, 0, 9] dX10_about_119 (by decide) rfl ?_
      refine z_iinc (v := (v10 + 1)) (lv' := [(0, .ref (X.2.2 109)), (1, .int v1), (3, .int v3), (4, .int v4), (5, .int v5), (6, .int v6), (7, .int v7), (8, .int v8), (9, .int x7), (10, .int (v10 + 1))]) S [1, 2, 3, 4, 5, 6, 7, 8, 9, 0] 9 dX10_about_121 rfl (by rfl) (by decide) rfl ?_
      refine z_goto (tgt := 79) S dX10_about_124 (by decide) ?_
      refine z_lv (ks := [0, 1, 2, 3, 4, 5, 6, 7, 8, 9]) rfl ?_
      exact hc _ (Option.some.inj he).symm
set_option maxRecDepth 100000 in
set_option maxHeartbeats 4000000 in
theorem p_X10_about_L66 {X : Cx} {p : Program} {l : Launch} {e : Env} {s : State} {m : MethodId} {args : Array Value} {below : List Frame} {meth : Method} {c : Code} (S : SB X 1 p s m args meth c cX10_about 11 (some .int) RX10) {M : Mm} {N : Mm} {r : Int32} {v1 : Int32} {v3 : Int32} {v4 : Int32} {v5 : Int32} {v6 : Int32} {v7 : Int32} {v8 : Int32} {x : (Mm × Int32 × Int32 × Int32 × Int32) ⊕ (Mm × Int32 × Int32 × Int32)}  (he : f_X10_about_L66 M v1 v3 v4 v5 v6 v7 v8 = some x) (hc : ∀ b, x = .inl b → Z X 1 p l e rm_X10_about s m args below meth c 0 0 (MQ below (QI X 1 r N s.heap.size) args s 0 0 (AA X 1 s.heap.size)) 11 b.1 66 [(0, .ref (X.2.2 109)), (1, .int v1), (3, .int v3), (4, .int v4), (5, .int b.2.1), (6, .int b.2.2.1), (7, .int b.2.2.2.1), (8, .int b.2.2.2.2)] []) (hx : ∀ b, x = .inr b → Z X 1 p l e rm_X10_about s m args below meth c 0 0 (MQ below (QI X 1 r N s.heap.size) args s 0 0 (AA X 1 s.heap.size)) 11 b.1 160 [(3, .int v3), (5, .int b.2.1), (6, .int b.2.2.1), (7, .int b.2.2.2)] []) : Z X 1 p l e rm_X10_about s m args below meth c 0 0 (MQ below (QI X 1 r N s.heap.size) args s 0 0 (AA X 1 s.heap.size)) 11 M 66 [(0, .ref (X.2.2 109)), (1, .int v1), (3, .int v3), (4, .int v4), (5, .int v5), (6, .int v6), (7, .int v7), (8, .int v8)] [] := by
  unfold f_X10_about_L66 at he
  refine z_iload S dX10_about_66 7 rfl ?_
  refine z_bipush (v := 64) S dX10_about_68 (by decide) ?_
  refine z_icmp_ge (tgt := 160) S he dX10_about_70 (by decide) (fun he => ?_) (fun he => ?_)
  · refine z_lv (ks := [2, 4, 5, 6]) rfl ?_
    exact hx _ (Option.some.inj he).symm
  · refine z_iconst (v := 0) S dX10_about_73 (by decide) ?_
    refine z_istore (lv' := [(0, .ref (X.2.2 109)), (1, .int v1), (3, .int v3), (4, .int v4), (5, .int v5), (6, .int v6), (7, .int v7), (8, .int v8), (9, .int 0)]) S [1, 2, 3, 4, 5, 6, 7, 8, 0] dX10_about_74 (by decide) rfl ?_
    refine z_iconst (v := 0) S dX10_about_76 (by decide) ?_
    refine z_istore (lv' := [(0, .ref (X.2.2 109)), (1, .int v1), (3, .int v3), (4, .int v4), (5, .int v5), (6, .int v6), (7, .int v7), (8, .int v8), (9, .int 0), (10, .int 0)]) S [1, 2, 3, 4, 5, 6, 7, 8, 9, 0] dX10_about_77 (by decide) rfl ?_
    obtain ⟨e_8, hl, he⟩ := bnd he
    have hX : Z X 1 p l e rm_X10_about s m args below meth c 0 0 (MQ below (QI X 1 r N s.heap.size) args s 0 0 (AA X 1 s.heap.size)) 11 e_8.1 127 [(0, .ref (X.2.2 109)), (1, .int v1), (3, .int v3), (4, .int v4), (5, .int v5), (6, .int v6), (7, .int v7), (8, .int v8), (9, .int e_8.2)] [] := by
      refine z_iload S dX10_about_127 8 rfl ?_
      refine z_iload S dX10_about_129 3 rfl ?_
      refine z_icmp_eq (tgt := 137) S he dX10_about_131 (by decide) (fun he => ?_) (fun he => ?_)
      · refine z_iinc (v := (v5 + 1)) (lv' := [(0, .ref (X.2.2 109)), (1, .int v1), (3, .int v3), (4, .int v4), (5, .int (v5 + 1)), (6, .int v6), (7, .int v7), (8, .int v8), (9, .int e_8.2)]) S [1, 2, 3, 4, 0, 5, 6, 7, 8] 4 dX10_about_137 rfl (by rfl) (by decide) rfl ?_
        refine z_iload S dX10_about_140 5 rfl ?_
        refine z_iload S dX10_about_142 7 rfl ?_
        refine z_iand S dX10_about_144 ?_
        refine z_istore (lv' := [(0, .ref (X.2.2 109)), (1, .int v1), (3, .int v3), (4, .int v4), (5, .int (v5 + 1)), (6, .int (v6 &&& v8)), (7, .int v7), (8, .int v8)]) S [1, 2, 3, 4, 5, 0, 6, 7] dX10_about_145 (by decide) rfl ?_
        refine z_iload S dX10_about_147 6 rfl ?_
        refine z_iload S dX10_about_149 7 rfl ?_
        refine z_ior S dX10_about_151 ?_
        refine z_istore (lv' := [(0, .ref (X.2.2 109)), (1, .int v1), (3, .int v3), (4, .int v4), (5, .int (v5 + 1)), (6, .int (v6 &&& v8)), (7, .int (v7 ||| v8)), (8, .int v8)]) S [1, 2, 3, 4, 5, 6, 0, 7] dX10_about_152 (by decide) rfl ?_
        refine z_iinc (v := (v8 + 1)) (lv' := [(0, .ref (X.2.2 109)), (1, .int v1), (3, .int v3), (4, .int v4), (5, .int (v5 + 1)), (6, .int (v6 &&& v8)), (7, .int (v7 ||| v8)), (8, .int (v8 + 1))]) S [1, 2, 3, 4, 5, 6, 7, 0] 7 dX10_about_154 rfl (by rfl) (by decide) rfl ?_
        refine z_goto (tgt := 66) S dX10_about_157 (by decide) ?_
        refine z_lv (ks := [0, 1, 2, 3, 4, 5, 6, 7]) rfl ?_
        exact hc _ (Option.some.inj he).symm
      · refine z_goto (tgt := 154) S dX10_about_134 (by decide) ?_
        refine z_iinc (v := (v8 + 1)) (lv' := [(0, .ref (X.2.2 109)), (1, .int v1), (3, .int v3), (4, .int v4), (5, .int v5), (6, .int v6), (7, .int v7), (8, .int (v8 + 1)), (9, .int e_8.2)]) S [1, 2, 3, 4, 5, 6, 7, 0, 8] 7 dX10_about_154 rfl (by rfl) (by decide) rfl ?_
        refine z_goto (tgt := 66) S dX10_about_157 (by decide) ?_
        refine z_lv (ks := [0, 1, 2, 3, 4, 5, 6, 7]) rfl ?_
        exact hc _ (Option.some.inj he).symm
    have hZ9 := loopZ (f := (fun a_8 => f_X10_about_L79 a_8.1 v1 v3 v4 v5 v6 v7 v8 a_8.2.1 a_8.2.2)) (Zh := (fun a_8 => Z X 1 p l e rm_X10_about s m args below meth c 0 0 (MQ below (QI X 1 r N s.heap.size) args s 0 0 (AA X 1 s.heap.size)) 11 a_8.1 79 [(0, .ref (X.2.2 109)), (1, .int v1), (3, .int v3), (4, .int v4), (5, .int v5), (6, .int v6), (7, .int v7), (8, .int v8), (9, .int a_8.2.1), (10, .int a_8.2.2)] [])) (fun a_8 x hb hc hr => p_X10_about_L79 S  hb hc (fun b hxe => by rw [hr b hxe]; exact hX)) FU (M, 0, 0) hl
    exact hZ9
set_option maxRecDepth 100000 in
set_option maxHeartbeats 4000000 in
theorem p_X10_about_J27 {X : Cx} {p : Program} {l : Launch} {e : Env} {s : State} {m : MethodId} {args : Array Value} {below : List Frame} {meth : Method} {c : Code} (S : SB X 1 p s m args meth c cX10_about 11 (some .int) RX10) {M : Mm} {N : Mm} {r : Int32} {v1 : Int32} {v2 : Int32} {v3 : Int32} {t0 : Int32}  (he : f_X10_about_J27 M v1 v2 v3 t0 = some (r, N)) : Z X 1 p l e rm_X10_about s m args below meth c 0 0 (MQ below (QI X 1 r N s.heap.size) args s 0 0 (AA X 1 s.heap.size)) 11 M 27 [(0, .ref (X.2.2 109)), (1, .int v1), (2, .int v2), (3, .int v3)] [.int t0, .ref (X.2.2 109)] := by
  unfold f_X10_about_J27 at he
  refine z_putIb S fo_RX10_63p rfl ok_109 rfl rfl he dX10_about_27 (fun M2 he => ?_)
  refine z_aload_n S dX10_about_30 rfl 0 rfl ?_
  refine z_getI S fo_RX10_63 rfl ok_109 dX10_about_31 ?_
  refine z_if_le (tgt := 39) S he dX10_about_34 (by decide) (fun he => ?_) (fun he => ?_)
  · refine z_iload_n S dX10_about_39 rfl 2 rfl ?_
    refine z_iconst (v := 1) S dX10_about_40 (by decide) ?_
    refine z_aload_n S dX10_about_41 rfl 0 rfl ?_
    refine z_getF (j := 110) S fo_RX10_7 1 rfl rfl ok_109 dX10_about_42 ?_
    refine z_iconst (v := 3) S dX10_about_45 (by decide) ?_
    refine z_iald S ok_110 rfl he dX10_about_46 (fun he => ?_)
    refine z_ishl S dX10_about_47 ?_
    refine z_iconst (v := 1) S dX10_about_48 (by decide) ?_
    refine z_isub S dX10_about_49 ?_
    refine z_iand S dX10_about_50 ?_
    obtain ⟨x3, ex3, he⟩ := bnd he
    rw [Option.some.inj ex3]
    refine z_istore (lv' := [(0, .ref (X.2.2 109)), (1, .int v1), (3, .int v3), (4, .int x3)]) S [1, 2, 4, 0] dX10_about_51 (by decide) rfl ?_
    refine z_iconst (v := 0) S dX10_about_53 (by decide) ?_
    refine z_istore (lv' := [(0, .ref (X.2.2 109)), (1, .int v1), (3, .int v3), (4, .int x3), (5, .int 0)]) S [1, 2, 3, 4, 0] dX10_about_54 (by decide) rfl ?_
    refine z_bipush (v := 63) S dX10_about_56 (by decide) ?_
    refine z_istore (lv' := [(0, .ref (X.2.2 109)), (1, .int v1), (3, .int v3), (4, .int x3), (5, .int 0), (6, .int 63)]) S [1, 2, 3, 4, 5, 0] dX10_about_58 (by decide) rfl ?_
    refine z_iconst (v := 0) S dX10_about_60 (by decide) ?_
    refine z_istore (lv' := [(0, .ref (X.2.2 109)), (1, .int v1), (3, .int v3), (4, .int x3), (5, .int 0), (6, .int 63), (7, .int 0)]) S [1, 2, 3, 4, 5, 6, 0] dX10_about_61 (by decide) rfl ?_
    refine z_iconst (v := 0) S dX10_about_63 (by decide) ?_
    refine z_istore (lv' := [(0, .ref (X.2.2 109)), (1, .int v1), (3, .int v3), (4, .int x3), (5, .int 0), (6, .int 63), (7, .int 0), (8, .int 0)]) S [1, 2, 3, 4, 5, 6, 7, 0] dX10_about_64 (by decide) rfl ?_
    obtain ⟨e_9, hl, he⟩ := bnd he
    have hX : Z X 1 p l e rm_X10_about s m args below meth c 0 0 (MQ below (QI X 1 r N s.heap.size) args s 0 0 (AA X 1 s.heap.size)) 11 e_9.1 160 [(3, .int v3), (5, .int e_9.2.1), (6, .int e_9.2.2.1), (7, .int e_9.2.2.2)] [] := by
      refine z_iload_n S dX10_about_160 rfl 0 rfl ?_
      refine z_if_ne (tgt := 169) S he dX10_about_161 (by decide) (fun he => ?_) (fun he => ?_)
      · refine z_iload S dX10_about_169 1 rfl ?_
        refine z_if_ne (tgt := 178) S he dX10_about_171 (by decide) (fun he => ?_) (fun he => ?_)
        · refine z_iload_n S dX10_about_178 rfl 0 rfl ?_
          refine z_iconst (v := 1) S dX10_about_179 (by decide) ?_
          refine z_icmp_ne (tgt := 188) S he dX10_about_180 (by decide) (fun he => ?_) (fun he => ?_)
          · refine z_iload S dX10_about_188 3 rfl ?_
            exact z_iret S (Prod.mk.inj (Option.some.inj he)) dX10_about_190
          · refine z_iload S dX10_about_183 2 rfl ?_
            refine z_goto (tgt := 190) S dX10_about_185 (by decide) ?_
            exact z_iret S (Prod.mk.inj (Option.some.inj he)) dX10_about_190
        · refine z_iconst (v := 0) S dX10_about_174 (by decide) ?_
          refine z_goto (tgt := 190) S dX10_about_175 (by decide) ?_
          exact z_iret S (Prod.mk.inj (Option.some.inj he)) dX10_about_190
      · refine z_iload S dX10_about_164 1 rfl ?_
        refine z_goto (tgt := 190) S dX10_about_166 (by decide) ?_
        exact z_iret S (Prod.mk.inj (Option.some.inj he)) dX10_about_190
    have hZ9 := loopZ (f := (fun a_9 => f_X10_about_L66 a_9.1 v1 v3 x3 a_9.2.1 a_9.2.2.1 a_9.2.2.2.1 a_9.2.2.2.2)) (Zh := (fun a_9 => Z X 1 p l e rm_X10_about s m args below meth c 0 0 (MQ below (QI X 1 r N s.heap.size) args s 0 0 (AA X 1 s.heap.size)) 11 a_9.1 66 [(0, .ref (X.2.2 109)), (1, .int v1), (3, .int v3), (4, .int x3), (5, .int a_9.2.1), (6, .int a_9.2.2.1), (7, .int a_9.2.2.2.1), (8, .int a_9.2.2.2.2)] [])) (fun a_9 x hb hc hr => p_X10_about_L66 S  hb hc (fun b hxe => by rw [hr b hxe]; exact hX)) FU (M2, 0, 63, 0, 0) hl
    exact hZ9
  · refine z_iconst (v := 0) S dX10_about_37 (by decide) ?_
    exact z_iret S (Prod.mk.inj (Option.some.inj he)) dX10_about_38
set_option maxRecDepth 100000 in
set_option maxHeartbeats 4000000 in
theorem K_X10_about {X : Cx} {l : Launch} {M : Mm} {a1 : Int32} {a2 : Int32} {a3 : Int32} {r : Int32} {N : Mm}  (he : f_X10_about M a1 a2 a3 = some (r, N)) : KI X 1 l yX10_about (wz yX10_about cX10_about 11 (some .int)) rm_X10_about [.ref (X.2.2 109), .int a1, .int a2, .int a3] M r N := by
  intro sz
  refine K_of (Qc := (fun sz => QI X 1 r N sz)) (own := RX10) (lv0 := [(0, .ref (X.2.2 109)), (1, .int a1), (2, .int a2), (3, .int a3)]) (by decide +kernel) rfl (Nat.le_of_ble_eq_true rfl) rfl (fun p e s m args below meth c S => ?_) sz
  · unfold f_X10_about at he
    refine z_aload_n S dX10_about_0 rfl 0 rfl ?_
    refine z_aload_n S dX10_about_1 rfl 0 rfl ?_
    refine z_iload_n S dX10_about_2 rfl 1 rfl ?_
    obtain ⟨r1, h9, he⟩ := bnd he
    refine z_cVI (As := [.int a1]) S cv_RX10_300 (K_X10_isVisitor  h9) ok_109 (by decide) (q := (RX10, TX10, 28)) rfl rfl ⟨rfl, rfl⟩ ⟨Nat.le_of_ble_eq_true rfl, Nat.le_of_ble_eq_true rfl⟩ ⟨Nat.le_refl _, Nat.le_refl _⟩ rfl rfl (Nat.le_of_ble_eq_true rfl) dX10_about_3 ?_
    refine z_ifb_ne (tgt := 13) S he dX10_about_6 (by decide) (fun he => ?_) (fun he => ?_)
    · refine z_iload_n S dX10_about_13 rfl 3 rfl ?_
      refine z_iconst (v := 0) S dX10_about_14 (by decide) ?_
      refine z_iconst (v := 2) S dX10_about_15 (by decide) ?_
      refine z_cSI (As := [.int a3, .int 0, .int 2]) S cs_RX10_66 (K_X10_isIn  rfl) ⟨rfl, rfl⟩ ⟨Nat.le_of_ble_eq_true rfl, Nat.le_of_ble_eq_true rfl⟩ ⟨Nat.le_refl _, Nat.le_refl _⟩ rfl rfl (Nat.le_of_ble_eq_true rfl) dX10_about_16 ?_
      refine z_ifb_ne (tgt := 26) S he dX10_about_19 (by decide) (fun he => ?_) (fun he => ?_)
      · refine z_iconst (v := 0) S dX10_about_26 (by decide) ?_
        exact p_X10_about_J27 S  he
      · refine z_iconst (v := 2) S dX10_about_22 (by decide) ?_
        refine z_goto (tgt := 27) S dX10_about_23 (by decide) ?_
        exact p_X10_about_J27 S  he
    · refine z_iconst (v := 1) S dX10_about_9 (by decide) ?_
      refine z_goto (tgt := 27) S dX10_about_10 (by decide) ?_
      exact p_X10_about_J27 S  he
set_option maxRecDepth 100000 in
set_option maxHeartbeats 4000000 in
theorem K_X10_isThing {X : Cx} {l : Launch} {M : Mm} {a1 : Int32} {r : Bool}  (he : f_X10_isThing M a1 = some r) : KI X 1 l yX10_isThing (wz yX10_isThing cX10_isThing 2 (some .boolean)) rm_X10_isThing [.ref (X.2.2 109), .int a1] M (bI r) M := by
  intro sz
  refine K_of (Qc := (fun sz => QI X 1 (bI r) M sz)) (own := RX10) (lv0 := [(0, .ref (X.2.2 109)), (1, .int a1)]) (by decide +kernel) rfl (Nat.le_of_ble_eq_true rfl) rfl (fun p e s m args below meth c S => ?_) sz
  · unfold f_X10_isThing at he
    refine z_iload_n S dX10_isThing_0 rfl 1 rfl ?_
    refine z_iconst (v := 0) S dX10_isThing_1 (by decide) ?_
    refine z_aload_n S dX10_isThing_2 rfl 0 rfl ?_
    refine z_getF (j := 110) S fo_RX10_7 1 rfl rfl ok_109 dX10_isThing_3 ?_
    refine z_iconst (v := 3) S dX10_isThing_6 (by decide) ?_
    refine z_iald S ok_110 rfl he dX10_isThing_7 (fun he => ?_)
    refine z_iconst (v := 1) S dX10_isThing_8 (by decide) ?_
    refine z_isub S dX10_isThing_9 ?_
    refine z_cSI (As := [.int a1, .int 0, .int ((gA M 110 3) - 1)]) S cs_RX10_66 (K_X10_isIn  rfl) ⟨rfl, rfl⟩ ⟨Nat.le_of_ble_eq_true rfl, Nat.le_of_ble_eq_true rfl⟩ ⟨Nat.le_refl _, Nat.le_refl _⟩ rfl rfl (Nat.le_of_ble_eq_true rfl) dX10_isThing_10 ?_
    exact z_zret S (⟨Option.some.inj he, rfl⟩) dX10_isThing_13
set_option maxRecDepth 100000 in
set_option maxHeartbeats 4000000 in
theorem p_X10_putsAside_L2 {X : Cx} {p : Program} {l : Launch} {e : Env} {s : State} {m : MethodId} {args : Array Value} {below : List Frame} {meth : Method} {c : Code} (S : SB X 1 p s m args meth c cX10_putsAside 2 none RX10) {M : Mm} {N : Mm} {v1 : Int32} {x : (Mm × Int32) ⊕ Mm}  (he : f_X10_putsAside_L2 M v1 = some x) (hc : ∀ b, x = .inl b → Z X 1 p l e rm_X10_putsAside s m args below meth c 0 0 (MQ below (QV X 1 N s.heap.size) args s 0 0 (AA X 1 s.heap.size)) 2 b.1 2 [(0, .ref (X.2.2 109)), (1, .int b.2)] []) (hx : ∀ b, x = .inr b → Z X 1 p l e rm_X10_putsAside s m args below meth c 0 0 (MQ below (QV X 1 N s.heap.size) args s 0 0 (AA X 1 s.heap.size)) 2 b 27 [] []) : Z X 1 p l e rm_X10_putsAside s m args below meth c 0 0 (MQ below (QV X 1 N s.heap.size) args s 0 0 (AA X 1 s.heap.size)) 2 M 2 [(0, .ref (X.2.2 109)), (1, .int v1)] [] := by
  unfold f_X10_putsAside_L2 at he
  refine z_iload_n S dX10_putsAside_2 rfl 1 rfl ?_
  refine z_sipush (v := 407) S dX10_putsAside_3 (by decide) ?_
  refine z_icmp_ge (tgt := 27) S he dX10_putsAside_6 (by decide) (fun he => ?_) (fun he => ?_)
  · refine z_lv (ks := []) rfl ?_
    exact hx _ (Option.some.inj he).symm
  · refine z_aload_n S dX10_putsAside_9 rfl 0 rfl ?_
    refine z_getF (j := 112) S fo_RX10_16 3 rfl rfl ok_109 dX10_putsAside_10 ?_
    refine z_iload_n S dX10_putsAside_13 rfl 1 rfl ?_
    refine z_aload_n S dX10_putsAside_14 rfl 0 rfl ?_
    refine z_getF (j := 110) S fo_RX10_7 1 rfl rfl ok_109 dX10_putsAside_15 ?_
    refine z_iload_n S dX10_putsAside_18 rfl 1 rfl ?_
    refine z_iald S ok_110 rfl he dX10_putsAside_19 (fun he => ?_)
    refine z_iastb S ok_112 rfl he dX10_putsAside_20 (fun M1 he => ?_)
    refine z_iinc (v := (v1 + 1)) (lv' := [(0, .ref (X.2.2 109)), (1, .int (v1 + 1))]) S [1, 0] 1 dX10_putsAside_21 rfl (by rfl) (by decide) rfl ?_
    refine z_goto (tgt := 2) S dX10_putsAside_24 (by decide) ?_
    refine z_lv (ks := [0, 1]) rfl ?_
    exact hc _ (Option.some.inj he).symm
set_option maxRecDepth 100000 in
set_option maxHeartbeats 4000000 in
theorem K_X10_putsAside {X : Cx} {l : Launch} {M : Mm} {N : Mm}  (he : f_X10_putsAside M  = some N) : KV X 1 l yX10_putsAside (wz yX10_putsAside cX10_putsAside 2 none) rm_X10_putsAside [.ref (X.2.2 109)] M N := by
  intro sz
  refine K_of (Qc := (fun sz => QV X 1 N sz)) (own := RX10) (lv0 := [(0, .ref (X.2.2 109))]) (by decide +kernel) rfl (Nat.le_of_ble_eq_true rfl) rfl (fun p e s m args below meth c S => ?_) sz
  · unfold f_X10_putsAside at he
    refine z_iconst (v := 0) S dX10_putsAside_0 (by decide) ?_
    refine z_istore_n (lv' := [(0, .ref (X.2.2 109)), (1, .int 0)]) S [1, 0] dX10_putsAside_1 rfl (by decide) rfl ?_
    obtain ⟨e_2, hl, he⟩ := bnd he
    have hX : Z X 1 p l e rm_X10_putsAside s m args below meth c 0 0 (MQ below (QV X 1 N s.heap.size) args s 0 0 (AA X 1 s.heap.size)) 2 e_2 27 [] [] := by
      exact z_vret S (Option.some.inj he) dX10_putsAside_27
    have hZ9 := loopZ (f := (fun a_2 => f_X10_putsAside_L2 a_2.1 a_2.2)) (Zh := (fun a_2 => Z X 1 p l e rm_X10_putsAside s m args below meth c 0 0 (MQ below (QV X 1 N s.heap.size) args s 0 0 (AA X 1 s.heap.size)) 2 a_2.1 2 [(0, .ref (X.2.2 109)), (1, .int a_2.2)] [])) (fun a_2 x hb hc hr => p_X10_putsAside_L2 S  hb hc (fun b hxe => by rw [hr b hxe]; exact hX)) FU (M, 0) hl
    exact hZ9
set_option maxRecDepth 100000 in
set_option maxHeartbeats 4000000 in
theorem p_X10_asks_L14 {X : Cx} {p : Program} {l : Launch} {e : Env} {s : State} {m : MethodId} {args : Array Value} {below : List Frame} {meth : Method} {c : Code} (S : SB X 1 p s m args meth c cX10_asks 3 none RX10) {M : Mm} {N : Mm} {v1 : Int32} {v2 : Int32} {x : (Mm × Int32) ⊕ Mm}  (he : f_X10_asks_L14 M v1 v2 = some x) (hc : ∀ b, x = .inl b → Z X 1 p l e rm_X10_asks s m args below meth c 0 0 (MQ below (QV X 1 N s.heap.size) args s 0 0 (AA X 1 s.heap.size)) 3 b.1 14 [(0, .ref (X.2.2 109)), (1, .int v1), (2, .int b.2)] []) (hx : ∀ b, x = .inr b → Z X 1 p l e rm_X10_asks s m args below meth c 0 0 (MQ below (QV X 1 N s.heap.size) args s 0 0 (AA X 1 s.heap.size)) 3 b 53 [(0, .ref (X.2.2 109)), (1, .int v1)] []) : Z X 1 p l e rm_X10_asks s m args below meth c 0 0 (MQ below (QV X 1 N s.heap.size) args s 0 0 (AA X 1 s.heap.size)) 3 M 14 [(0, .ref (X.2.2 109)), (1, .int v1), (2, .int v2)] [] := by
  unfold f_X10_asks_L14 at he
  refine z_iload_n S dX10_asks_14 rfl 2 rfl ?_
  refine z_aload_n S dX10_asks_15 rfl 0 rfl ?_
  refine z_getF (j := 110) S fo_RX10_7 1 rfl rfl ok_109 dX10_asks_16 ?_
  refine z_iconst (v := 4) S dX10_asks_19 (by decide) ?_
  refine z_iald S ok_110 rfl he dX10_asks_20 (fun he => ?_)
  refine z_icmp_ge (tgt := 53) S he dX10_asks_21 (by decide) (fun he => ?_) (fun he => ?_)
  · refine z_lv (ks := [0, 1]) rfl ?_
    exact hx _ (Option.some.inj he).symm
  · refine z_aload_n S dX10_asks_24 rfl 0 rfl ?_
    refine z_getF (j := 116) S fo_RX10_32 7 rfl rfl ok_109 dX10_asks_25 ?_
    refine z_bipush (v := 10) S dX10_asks_28 (by decide) ?_
    refine z_iload_n S dX10_asks_30 rfl 1 rfl ?_
    refine z_imul S dX10_asks_31 ?_
    refine z_iload_n S dX10_asks_32 rfl 2 rfl ?_
    refine z_iadd S dX10_asks_33 ?_
    refine z_aload_n S dX10_asks_34 rfl 0 rfl ?_
    refine z_iload_n S dX10_asks_35 rfl 1 rfl ?_
    refine z_iload_n S dX10_asks_36 rfl 2 rfl ?_
    refine z_aload_n S dX10_asks_37 rfl 0 rfl ?_
    refine z_iload_n S dX10_asks_38 rfl 2 rfl ?_
    refine z_iconst (v := 4) S dX10_asks_39 (by decide) ?_
    obtain ⟨r1, h9, he⟩ := bnd he
    refine z_cVI (As := [.int v2, .int 4]) S cv_RX10_246 (K_X10_ofOne  h9) ok_109 (by decide) (q := (RX10, TX10, 28)) rfl rfl ⟨rfl, rfl⟩ ⟨Nat.le_of_ble_eq_true rfl, Nat.le_of_ble_eq_true rfl⟩ ⟨Nat.le_refl _, Nat.le_refl _⟩ rfl rfl (Nat.le_of_ble_eq_true rfl) dX10_asks_40 ?_
    obtain ⟨⟨r2, M3⟩, h9, he⟩ := bnd he
    dsimp only at he
    refine z_cVI (As := [.int v1, .int v2, .int r1]) S cv_RX10_252 (K_X10_likesOne  h9) ok_109 (by decide) (q := (RX10, TX10, 28)) rfl rfl ⟨rfl, rfl⟩ ⟨Nat.le_of_ble_eq_true rfl, Nat.le_of_ble_eq_true rfl⟩ ⟨Nat.le_refl _, Nat.le_refl _⟩ rfl rfl (Nat.le_of_ble_eq_true rfl) dX10_asks_43 ?_
    refine z_iastb S ok_116 rfl he dX10_asks_46 (fun M4 he => ?_)
    refine z_iinc (v := (v2 + 1)) (lv' := [(0, .ref (X.2.2 109)), (1, .int v1), (2, .int (v2 + 1))]) S [1, 2, 0] 2 dX10_asks_47 rfl (by rfl) (by decide) rfl ?_
    refine z_goto (tgt := 14) S dX10_asks_50 (by decide) ?_
    refine z_lv (ks := [0, 1, 2]) rfl ?_
    exact hc _ (Option.some.inj he).symm
set_option maxRecDepth 100000 in
set_option maxHeartbeats 4000000 in
theorem p_X10_asks_L2 {X : Cx} {p : Program} {l : Launch} {e : Env} {s : State} {m : MethodId} {args : Array Value} {below : List Frame} {meth : Method} {c : Code} (S : SB X 1 p s m args meth c cX10_asks 3 none RX10) {M : Mm} {N : Mm} {v1 : Int32} {x : (Mm × Int32) ⊕ Mm}  (he : f_X10_asks_L2 M v1 = some x) (hc : ∀ b, x = .inl b → Z X 1 p l e rm_X10_asks s m args below meth c 0 0 (MQ below (QV X 1 N s.heap.size) args s 0 0 (AA X 1 s.heap.size)) 3 b.1 2 [(0, .ref (X.2.2 109)), (1, .int b.2)] []) (hx : ∀ b, x = .inr b → Z X 1 p l e rm_X10_asks s m args below meth c 0 0 (MQ below (QV X 1 N s.heap.size) args s 0 0 (AA X 1 s.heap.size)) 3 b 59 [] []) : Z X 1 p l e rm_X10_asks s m args below meth c 0 0 (MQ below (QV X 1 N s.heap.size) args s 0 0 (AA X 1 s.heap.size)) 3 M 2 [(0, .ref (X.2.2 109)), (1, .int v1)] [] := by
  unfold f_X10_asks_L2 at he
  refine z_iload_n S dX10_asks_2 rfl 1 rfl ?_
  refine z_aload_n S dX10_asks_3 rfl 0 rfl ?_
  refine z_getF (j := 110) S fo_RX10_7 1 rfl rfl ok_109 dX10_asks_4 ?_
  refine z_iconst (v := 3) S dX10_asks_7 (by decide) ?_
  refine z_iald S ok_110 rfl he dX10_asks_8 (fun he => ?_)
  refine z_icmp_ge (tgt := 59) S he dX10_asks_9 (by decide) (fun he => ?_) (fun he => ?_)
  · refine z_lv (ks := []) rfl ?_
    exact hx _ (Option.some.inj he).symm
  · refine z_iconst (v := 0) S dX10_asks_12 (by decide) ?_
    refine z_istore_n (lv' := [(0, .ref (X.2.2 109)), (1, .int v1), (2, .int 0)]) S [1, 2, 0] dX10_asks_13 rfl (by decide) rfl ?_
    obtain ⟨e_5, hl, he⟩ := bnd he
    have hX : Z X 1 p l e rm_X10_asks s m args below meth c 0 0 (MQ below (QV X 1 N s.heap.size) args s 0 0 (AA X 1 s.heap.size)) 3 e_5 53 [(0, .ref (X.2.2 109)), (1, .int v1)] [] := by
      refine z_iinc (v := (v1 + 1)) (lv' := [(0, .ref (X.2.2 109)), (1, .int (v1 + 1))]) S [1, 0] 1 dX10_asks_53 rfl (by rfl) (by decide) rfl ?_
      refine z_goto (tgt := 2) S dX10_asks_56 (by decide) ?_
      refine z_lv (ks := [0, 1]) rfl ?_
      exact hc _ (Option.some.inj he).symm
    have hZ9 := loopZ (f := (fun a_5 => f_X10_asks_L14 a_5.1 v1 a_5.2)) (Zh := (fun a_5 => Z X 1 p l e rm_X10_asks s m args below meth c 0 0 (MQ below (QV X 1 N s.heap.size) args s 0 0 (AA X 1 s.heap.size)) 3 a_5.1 14 [(0, .ref (X.2.2 109)), (1, .int v1), (2, .int a_5.2)] [])) (fun a_5 x hb hc hr => p_X10_asks_L14 S  hb hc (fun b hxe => by rw [hr b hxe]; exact hX)) FU (M, 0) hl
    exact hZ9
set_option maxRecDepth 100000 in
set_option maxHeartbeats 4000000 in
theorem K_X10_asks {X : Cx} {l : Launch} {M : Mm} {N : Mm}  (he : f_X10_asks M  = some N) : KV X 1 l yX10_asks (wz yX10_asks cX10_asks 3 none) rm_X10_asks [.ref (X.2.2 109)] M N := by
  intro sz
  refine K_of (Qc := (fun sz => QV X 1 N sz)) (own := RX10) (lv0 := [(0, .ref (X.2.2 109))]) (by decide +kernel) rfl (Nat.le_of_ble_eq_true rfl) rfl (fun p e s m args below meth c S => ?_) sz
  · unfold f_X10_asks at he
    refine z_iconst (v := 0) S dX10_asks_0 (by decide) ?_
    refine z_istore_n (lv' := [(0, .ref (X.2.2 109)), (1, .int 0)]) S [1, 0] dX10_asks_1 rfl (by decide) rfl ?_
    obtain ⟨e_6, hl, he⟩ := bnd he
    have hX : Z X 1 p l e rm_X10_asks s m args below meth c 0 0 (MQ below (QV X 1 N s.heap.size) args s 0 0 (AA X 1 s.heap.size)) 3 e_6 59 [] [] := by
      exact z_vret S (Option.some.inj he) dX10_asks_59
    have hZ9 := loopZ (f := (fun a_6 => f_X10_asks_L2 a_6.1 a_6.2)) (Zh := (fun a_6 => Z X 1 p l e rm_X10_asks s m args below meth c 0 0 (MQ below (QV X 1 N s.heap.size) args s 0 0 (AA X 1 s.heap.size)) 3 a_6.1 2 [(0, .ref (X.2.2 109)), (1, .int a_6.2)] [])) (fun a_6 x hb hc hr => p_X10_asks_L2 S  hb hc (fun b hxe => by rw [hr b hxe]; exact hX)) FU (M, 0) hl
    exact hZ9
set_option maxRecDepth 100000 in
set_option maxHeartbeats 4000000 in
theorem p_X10_beginsDay_L2 {X : Cx} {p : Program} {l : Launch} {e : Env} {s : State} {m : MethodId} {args : Array Value} {below : List Frame} {meth : Method} {c : Code} (S : SB X 1 p s m args meth c cX10_beginsDay 2 none RX10) {M : Mm} {N : Mm} {v1 : Int32} {x : (Mm × Int32) ⊕ Mm}  (he : f_X10_beginsDay_L2 M v1 = some x) (hc : ∀ b, x = .inl b → Z X 1 p l e rm_X10_beginsDay s m args below meth c 0 0 (MQ below (QV X 1 N s.heap.size) args s 0 0 (AA X 1 s.heap.size)) 2 b.1 2 [(0, .ref (X.2.2 109)), (1, .int b.2)] []) (hx : ∀ b, x = .inr b → Z X 1 p l e rm_X10_beginsDay s m args below meth c 0 0 (MQ below (QV X 1 N s.heap.size) args s 0 0 (AA X 1 s.heap.size)) 2 b 21 [(0, .ref (X.2.2 109))] []) : Z X 1 p l e rm_X10_beginsDay s m args below meth c 0 0 (MQ below (QV X 1 N s.heap.size) args s 0 0 (AA X 1 s.heap.size)) 2 M 2 [(0, .ref (X.2.2 109)), (1, .int v1)] [] := by
  unfold f_X10_beginsDay_L2 at he
  refine z_iload_n S dX10_beginsDay_2 rfl 1 rfl ?_
  refine z_bipush (v := 9) S dX10_beginsDay_3 (by decide) ?_
  refine z_icmp_ge (tgt := 21) S he dX10_beginsDay_5 (by decide) (fun he => ?_) (fun he => ?_)
  · refine z_lv (ks := [0]) rfl ?_
    exact hx _ (Option.some.inj he).symm
  · refine z_aload_n S dX10_beginsDay_8 rfl 0 rfl ?_
    refine z_getF (j := 119) S fo_RX10_41 10 rfl rfl ok_109 dX10_beginsDay_9 ?_
    refine z_iload_n S dX10_beginsDay_12 rfl 1 rfl ?_
    refine z_iconst (v := 0) S dX10_beginsDay_13 (by decide) ?_
    refine z_iastb S ok_119 rfl he dX10_beginsDay_14 (fun M1 he => ?_)
    refine z_iinc (v := (v1 + 1)) (lv' := [(0, .ref (X.2.2 109)), (1, .int (v1 + 1))]) S [1, 0] 1 dX10_beginsDay_15 rfl (by rfl) (by decide) rfl ?_
    refine z_goto (tgt := 2) S dX10_beginsDay_18 (by decide) ?_
    refine z_lv (ks := [0, 1]) rfl ?_
    exact hc _ (Option.some.inj he).symm
set_option maxRecDepth 100000 in
set_option maxHeartbeats 4000000 in
theorem p_X10_beginsDay_L23 {X : Cx} {p : Program} {l : Launch} {e : Env} {s : State} {m : MethodId} {args : Array Value} {below : List Frame} {meth : Method} {c : Code} (S : SB X 1 p s m args meth c cX10_beginsDay 2 none RX10) {M : Mm} {N : Mm} {v1 : Int32} {x : (Mm × Int32) ⊕ Mm}  (he : f_X10_beginsDay_L23 M v1 = some x) (hc : ∀ b, x = .inl b → Z X 1 p l e rm_X10_beginsDay s m args below meth c 0 0 (MQ below (QV X 1 N s.heap.size) args s 0 0 (AA X 1 s.heap.size)) 2 b.1 23 [(0, .ref (X.2.2 109)), (1, .int b.2)] []) (hx : ∀ b, x = .inr b → Z X 1 p l e rm_X10_beginsDay s m args below meth c 0 0 (MQ below (QV X 1 N s.heap.size) args s 0 0 (AA X 1 s.heap.size)) 2 b 49 [] []) : Z X 1 p l e rm_X10_beginsDay s m args below meth c 0 0 (MQ below (QV X 1 N s.heap.size) args s 0 0 (AA X 1 s.heap.size)) 2 M 23 [(0, .ref (X.2.2 109)), (1, .int v1)] [] := by
  unfold f_X10_beginsDay_L23 at he
  refine z_iload_n S dX10_beginsDay_23 rfl 1 rfl ?_
  refine z_bipush (v := 10) S dX10_beginsDay_24 (by decide) ?_
  refine z_icmp_ge (tgt := 49) S he dX10_beginsDay_26 (by decide) (fun he => ?_) (fun he => ?_)
  · refine z_lv (ks := []) rfl ?_
    exact hx _ (Option.some.inj he).symm
  · refine z_aload_n S dX10_beginsDay_29 rfl 0 rfl ?_
    refine z_getF (j := 117) S fo_RX10_35 8 rfl rfl ok_109 dX10_beginsDay_30 ?_
    refine z_iload_n S dX10_beginsDay_33 rfl 1 rfl ?_
    refine z_iconst (v := (-1)) S dX10_beginsDay_34 (by decide) ?_
    refine z_iastb S ok_117 rfl he dX10_beginsDay_35 (fun M3 he => ?_)
    refine z_aload_n S dX10_beginsDay_36 rfl 0 rfl ?_
    refine z_getF (j := 118) S fo_RX10_38 9 rfl rfl ok_109 dX10_beginsDay_37 ?_
    refine z_iload_n S dX10_beginsDay_40 rfl 1 rfl ?_
    refine z_iconst (v := (-1)) S dX10_beginsDay_41 (by decide) ?_
    refine z_iastb S ok_118 rfl he dX10_beginsDay_42 (fun M4 he => ?_)
    refine z_iinc (v := (v1 + 1)) (lv' := [(0, .ref (X.2.2 109)), (1, .int (v1 + 1))]) S [1, 0] 1 dX10_beginsDay_43 rfl (by rfl) (by decide) rfl ?_
    refine z_goto (tgt := 23) S dX10_beginsDay_46 (by decide) ?_
    refine z_lv (ks := [0, 1]) rfl ?_
    exact hc _ (Option.some.inj he).symm
set_option maxRecDepth 100000 in
set_option maxHeartbeats 4000000 in
theorem K_X10_beginsDay {X : Cx} {l : Launch} {M : Mm} {N : Mm}  (he : f_X10_beginsDay M  = some N) : KV X 1 l yX10_beginsDay (wz yX10_beginsDay cX10_beginsDay 2 none) rm_X10_beginsDay [.ref (X.2.2 109)] M N := by
  intro sz
  refine K_of (Qc := (fun sz => QV X 1 N sz)) (own := RX10) (lv0 := [(0, .ref (X.2.2 109))]) (by decide +kernel) rfl (Nat.le_of_ble_eq_true rfl) rfl (fun p e s m args below meth c S => ?_) sz
  · unfold f_X10_beginsDay at he
    refine z_iconst (v := 0) S dX10_beginsDay_0 (by decide) ?_
    refine z_istore_n (lv' := [(0, .ref (X.2.2 109)), (1, .int 0)]) S [1, 0] dX10_beginsDay_1 rfl (by decide) rfl ?_
    obtain ⟨e_2, hl, he⟩ := bnd he
    have hX : Z X 1 p l e rm_X10_beginsDay s m args below meth c 0 0 (MQ below (QV X 1 N s.heap.size) args s 0 0 (AA X 1 s.heap.size)) 2 e_2 21 [(0, .ref (X.2.2 109))] [] := by
      refine z_iconst (v := 0) S dX10_beginsDay_21 (by decide) ?_
      refine z_istore_n (lv' := [(0, .ref (X.2.2 109)), (1, .int 0)]) S [1, 0] dX10_beginsDay_22 rfl (by decide) rfl ?_
      obtain ⟨e_5, hl, he⟩ := bnd he
      have hX : Z X 1 p l e rm_X10_beginsDay s m args below meth c 0 0 (MQ below (QV X 1 N s.heap.size) args s 0 0 (AA X 1 s.heap.size)) 2 e_5 49 [] [] := by
        exact z_vret S (Option.some.inj he) dX10_beginsDay_49
      have hZ9 := loopZ (f := (fun a_5 => f_X10_beginsDay_L23 a_5.1 a_5.2)) (Zh := (fun a_5 => Z X 1 p l e rm_X10_beginsDay s m args below meth c 0 0 (MQ below (QV X 1 N s.heap.size) args s 0 0 (AA X 1 s.heap.size)) 2 a_5.1 23 [(0, .ref (X.2.2 109)), (1, .int a_5.2)] [])) (fun a_5 x hb hc hr => p_X10_beginsDay_L23 S  hb hc (fun b hxe => by rw [hr b hxe]; exact hX)) FU (e_2, 0) hl
      exact hZ9
    have hZ9 := loopZ (f := (fun a_2 => f_X10_beginsDay_L2 a_2.1 a_2.2)) (Zh := (fun a_2 => Z X 1 p l e rm_X10_beginsDay s m args below meth c 0 0 (MQ below (QV X 1 N s.heap.size) args s 0 0 (AA X 1 s.heap.size)) 2 a_2.1 2 [(0, .ref (X.2.2 109)), (1, .int a_2.2)] [])) (fun a_2 x hb hc hr => p_X10_beginsDay_L2 S  hb hc (fun b hxe => by rw [hr b hxe]; exact hX)) FU (M, 0) hl
    exact hZ9
set_option maxRecDepth 100000 in
set_option maxHeartbeats 4000000 in
theorem K_X10_draw {X : Cx} {l : Launch} {M : Mm} {a1 : Int32} {r : Int32} {N : Mm}  (he : f_X10_draw M a1 = some (r, N)) : KI X 1 l yX10_draw (wz yX10_draw cX10_draw 2 (some .int)) rm_X10_draw [.ref (X.2.2 109), .int a1] M r N := by
  intro sz
  refine K_of (Qc := (fun sz => QI X 1 r N sz)) (own := RX10) (lv0 := [(0, .ref (X.2.2 109)), (1, .int a1)]) (by decide +kernel) rfl (Nat.le_of_ble_eq_true rfl) rfl (fun p e s m args below meth c S => ?_) sz
  · unfold f_X10_draw at he
    refine z_aload_n S dX10_draw_0 rfl 0 rfl ?_
    refine z_getF (j := 110) S fo_RX10_7 1 rfl rfl ok_109 dX10_draw_1 ?_
    refine z_bipush (v := 9) S dX10_draw_4 (by decide) ?_
    refine z_ldcw (v := 1103515245) S kc_RX10_271 dX10_draw_6 ?_
    refine z_aload_n S dX10_draw_9 rfl 0 rfl ?_
    refine z_getF (j := 110) S fo_RX10_7 1 rfl rfl ok_109 dX10_draw_10 ?_
    refine z_bipush (v := 9) S dX10_draw_13 (by decide) ?_
    refine z_iald S ok_110 rfl he dX10_draw_15 (fun he => ?_)
    refine z_imul S dX10_draw_16 ?_
    refine z_sipush (v := 12345) S dX10_draw_17 (by decide) ?_
    refine z_iadd S dX10_draw_20 ?_
    refine z_iastb S ok_110 rfl he dX10_draw_21 (fun M1 he => ?_)
    refine z_aload_n S dX10_draw_22 rfl 0 rfl ?_
    refine z_getF (j := 110) S fo_RX10_7 1 rfl rfl ok_109 dX10_draw_23 ?_
    refine z_bipush (v := 9) S dX10_draw_26 (by decide) ?_
    refine z_iald S ok_110 rfl he dX10_draw_28 (fun he => ?_)
    refine z_bipush (v := 16) S dX10_draw_29 (by decide) ?_
    refine z_iushr S dX10_draw_31 ?_
    refine z_sipush (v := 32767) S dX10_draw_32 (by decide) ?_
    refine z_iand S dX10_draw_35 ?_
    refine z_iload_n S dX10_draw_36 rfl 1 rfl ?_
    obtain ⟨hy9, he⟩ := grd he
    refine z_irem S hy9 dX10_draw_37 ?_
    exact z_iret S (Prod.mk.inj (Option.some.inj he)) dX10_draw_38
set_option maxRecDepth 100000 in
set_option maxHeartbeats 4000000 in
theorem K_X10_canHave {X : Cx} {l : Launch} {M : Mm} {a1 : Int32} {a2 : Int32} {r : Bool}  (he : f_X10_canHave M a1 a2 = some r) : KI X 1 l yX10_canHave (wz yX10_canHave cX10_canHave 3 (some .boolean)) rm_X10_canHave [.ref (X.2.2 109), .int a1, .int a2] M (bI r) M := by
  intro sz
  refine K_of (Qc := (fun sz => QI X 1 (bI r) M sz)) (own := RX10) (lv0 := [(0, .ref (X.2.2 109)), (1, .int a1), (2, .int a2)]) (by decide +kernel) rfl (Nat.le_of_ble_eq_true rfl) rfl (fun p e s m args below meth c S => ?_) sz
  · unfold f_X10_canHave at he
    refine z_aload_n S dX10_canHave_0 rfl 0 rfl ?_
    refine z_iload_n S dX10_canHave_1 rfl 1 rfl ?_
    refine z_aload_n S dX10_canHave_2 rfl 0 rfl ?_
    refine z_getF (j := 116) S fo_RX10_32 7 rfl rfl ok_109 dX10_canHave_3 ?_
    refine z_bipush (v := 10) S dX10_canHave_6 (by decide) ?_
    refine z_iload_n S dX10_canHave_8 rfl 1 rfl ?_
    refine z_imul S dX10_canHave_9 ?_
    refine z_iload_n S dX10_canHave_10 rfl 2 rfl ?_
    refine z_iadd S dX10_canHave_11 ?_
    refine z_iald S ok_116 rfl he dX10_canHave_12 (fun he => ?_)
    obtain ⟨r1, h9, he⟩ := bnd he
    refine z_cVI (As := [.int a1, .int (gA M 116 ((10 * a1) + a2))]) S cv_RX10_256 (K_X10_rings  h9) ok_109 (by decide) (q := (RX10, TX10, 28)) rfl rfl ⟨rfl, rfl⟩ ⟨Nat.le_of_ble_eq_true rfl, Nat.le_of_ble_eq_true rfl⟩ ⟨Nat.le_refl _, Nat.le_refl _⟩ rfl rfl (Nat.le_of_ble_eq_true rfl) dX10_canHave_13 ?_
    exact z_zret S (⟨Option.some.inj he, rfl⟩) dX10_canHave_16
set_option maxRecDepth 100000 in
set_option maxHeartbeats 4000000 in
theorem p_X10_ledPast_J4_111 {X : Cx} {p : Program} {l : Launch} {e : Env} {s : State} {m : MethodId} {args : Array Value} {below : List Frame} {meth : Method} {c : Code} (S : SB X 1 p s m args meth c cX10_ledPast 5 (some .int) RX10) {M : Mm} {N : Mm} {r : Int32} {v1 : Int32} {v3 : Int32} {v4 : Int32} {x : (Mm × Int32 × Int32) ⊕ (Mm × Int32)}  (he : f_X10_ledPast_J4_111 M v1 v3 v4 = some x) (hc : ∀ b, x = .inl b → Z X 1 p l e rm_X10_ledPast s m args below meth c 0 0 (MQ below (QI X 1 r N s.heap.size) args s 0 0 (AA X 1 s.heap.size)) 5 b.1 4 [(0, .ref (X.2.2 109)), (1, .int v1), (2, .int b.2.1), (3, .int b.2.2)] []) (hx : ∀ b, x = .inr b → Z X 1 p l e rm_X10_ledPast s m args below meth c 0 0 (MQ below (QI X 1 r N s.heap.size) args s 0 0 (AA X 1 s.heap.size)) 5 b.1 127 [(2, .int b.2)] []) : Z X 1 p l e rm_X10_ledPast s m args below meth c 0 0 (MQ below (QI X 1 r N s.heap.size) args s 0 0 (AA X 1 s.heap.size)) 5 M 111 [(0, .ref (X.2.2 109)), (1, .int v1), (3, .int v3), (4, .int v4)] [] := by
  unfold f_X10_ledPast_J4_111 at he
  refine z_iload_n S dX10_ledPast_111 rfl 2 rfl ?_
  refine z_istore_n (lv' := [(0, .ref (X.2.2 109)), (1, .int v1), (2, .int v3), (3, .int v3), (4, .int v4)]) S [1, 2, 0, 3, 4] dX10_ledPast_112 rfl (by decide) rfl ?_
  refine z_aload_n S dX10_ledPast_113 rfl 0 rfl ?_
  refine z_getF (j := 118) S fo_RX10_38 9 rfl rfl ok_109 dX10_ledPast_114 ?_
  refine z_iload_n S dX10_ledPast_117 rfl 1 rfl ?_
  refine z_iload S dX10_ledPast_118 4 rfl ?_
  refine z_iastb S ok_118 rfl he dX10_ledPast_120 (fun M4 he => ?_)
  refine z_iinc (v := (v3 + 1)) (lv' := [(0, .ref (X.2.2 109)), (1, .int v1), (2, .int v3), (3, .int (v3 + 1)), (4, .int v4)]) S [1, 2, 3, 0, 4] 3 dX10_ledPast_121 rfl (by rfl) (by decide) rfl ?_
  refine z_goto (tgt := 4) S dX10_ledPast_124 (by decide) ?_
  refine z_lv (ks := [0, 1, 2, 3]) rfl ?_
  exact hc _ (Option.some.inj he).symm
set_option maxRecDepth 100000 in
set_option maxHeartbeats 4000000 in
theorem p_X10_ledPast_L4 {X : Cx} {p : Program} {l : Launch} {e : Env} {s : State} {m : MethodId} {args : Array Value} {below : List Frame} {meth : Method} {c : Code} (S : SB X 1 p s m args meth c cX10_ledPast 5 (some .int) RX10) {M : Mm} {N : Mm} {r : Int32} {v1 : Int32} {v2 : Int32} {v3 : Int32} {x : (Mm × Int32 × Int32) ⊕ (Mm × Int32)}  (he : f_X10_ledPast_L4 M v1 v2 v3 = some x) (hc : ∀ b, x = .inl b → Z X 1 p l e rm_X10_ledPast s m args below meth c 0 0 (MQ below (QI X 1 r N s.heap.size) args s 0 0 (AA X 1 s.heap.size)) 5 b.1 4 [(0, .ref (X.2.2 109)), (1, .int v1), (2, .int b.2.1), (3, .int b.2.2)] []) (hx : ∀ b, x = .inr b → Z X 1 p l e rm_X10_ledPast s m args below meth c 0 0 (MQ below (QI X 1 r N s.heap.size) args s 0 0 (AA X 1 s.heap.size)) 5 b.1 127 [(2, .int b.2)] []) : Z X 1 p l e rm_X10_ledPast s m args below meth c 0 0 (MQ below (QI X 1 r N s.heap.size) args s 0 0 (AA X 1 s.heap.size)) 5 M 4 [(0, .ref (X.2.2 109)), (1, .int v1), (2, .int v2), (3, .int v3)] [] := by
  unfold f_X10_ledPast_L4 at he
  refine z_iload_n S dX10_ledPast_4 rfl 3 rfl ?_
  refine z_aload_n S dX10_ledPast_5 rfl 0 rfl ?_
  refine z_getF (j := 110) S fo_RX10_7 1 rfl rfl ok_109 dX10_ledPast_6 ?_
  refine z_iconst (v := 3) S dX10_ledPast_9 (by decide) ?_
  refine z_iald S ok_110 rfl he dX10_ledPast_10 (fun he => ?_)
  refine z_icmp_ge (tgt := 127) S he dX10_ledPast_11 (by decide) (fun he => ?_) (fun he => ?_)
  · refine z_lv (ks := [2]) rfl ?_
    exact hx _ (Option.some.inj he).symm
  · refine z_aload_n S dX10_ledPast_14 rfl 0 rfl ?_
    refine z_getF (j := 119) S fo_RX10_41 10 rfl rfl ok_109 dX10_ledPast_15 ?_
    refine z_iload_n S dX10_ledPast_18 rfl 3 rfl ?_
    refine z_iald S ok_119 rfl he dX10_ledPast_19 (fun he => ?_)
    refine z_aload_n S dX10_ledPast_20 rfl 0 rfl ?_
    refine z_iload_n S dX10_ledPast_21 rfl 3 rfl ?_
    refine z_iconst (v := 2) S dX10_ledPast_22 (by decide) ?_
    obtain ⟨r1, h9, he⟩ := bnd he
    refine z_cVI (As := [.int v3, .int 2]) S cv_RX10_70 (K_X10_of  h9) ok_109 (by decide) (q := (RX10, TX10, 28)) rfl rfl ⟨rfl, rfl⟩ ⟨Nat.le_of_ble_eq_true rfl, Nat.le_of_ble_eq_true rfl⟩ ⟨Nat.le_refl _, Nat.le_refl _⟩ rfl rfl (Nat.le_of_ble_eq_true rfl) dX10_ledPast_23 ?_
    refine z_icmp_eq (tgt := 121) S he dX10_ledPast_26 (by decide) (fun he => ?_) (fun he => ?_)
    · refine z_iinc (v := (v3 + 1)) (lv' := [(0, .ref (X.2.2 109)), (1, .int v1), (2, .int v2), (3, .int (v3 + 1))]) S [1, 2, 3, 0] 3 dX10_ledPast_121 rfl (by rfl) (by decide) rfl ?_
      refine z_goto (tgt := 4) S dX10_ledPast_124 (by decide) ?_
      refine z_lv (ks := [0, 1, 2, 3]) rfl ?_
      exact hc _ (Option.some.inj he).symm
    · refine z_aload_n S dX10_ledPast_29 rfl 0 rfl ?_
      refine z_iload_n S dX10_ledPast_30 rfl 3 rfl ?_
      refine z_iload_n S dX10_ledPast_31 rfl 1 rfl ?_
      obtain ⟨r2, h9, he⟩ := bnd he
      refine z_cVI (As := [.int v3, .int v1]) S cv_RX10_259 (K_X10_canHave  h9) ok_109 (by decide) (q := (RX10, TX10, 28)) rfl rfl ⟨rfl, rfl⟩ ⟨Nat.le_of_ble_eq_true rfl, Nat.le_of_ble_eq_true rfl⟩ ⟨Nat.le_refl _, Nat.le_refl _⟩ rfl rfl (Nat.le_of_ble_eq_true rfl) dX10_ledPast_32 ?_
      refine z_ifb_ne (tgt := 41) S he dX10_ledPast_35 (by decide) (fun he => ?_) (fun he => ?_)
      · refine z_aload_n S dX10_ledPast_41 rfl 0 rfl ?_
        refine z_iload_n S dX10_ledPast_42 rfl 3 rfl ?_
        refine z_iconst (v := 0) S dX10_ledPast_43 (by decide) ?_
        obtain ⟨r3, h9, he⟩ := bnd he
        refine z_cVI (As := [.int v3, .int 0]) S cv_RX10_70 (K_X10_of  h9) ok_109 (by decide) (q := (RX10, TX10, 28)) rfl rfl ⟨rfl, rfl⟩ ⟨Nat.le_of_ble_eq_true rfl, Nat.le_of_ble_eq_true rfl⟩ ⟨Nat.le_refl _, Nat.le_refl _⟩ rfl rfl (Nat.le_of_ble_eq_true rfl) dX10_ledPast_44 ?_
        refine z_aload_n S dX10_ledPast_47 rfl 0 rfl ?_
        refine z_getF (j := 110) S fo_RX10_7 1 rfl rfl ok_109 dX10_ledPast_48 ?_
        refine z_iconst (v := 5) S dX10_ledPast_51 (by decide) ?_
        refine z_iald S ok_110 rfl he dX10_ledPast_52 (fun he => ?_)
        obtain ⟨hy9, he⟩ := grd he
        refine z_idiv S hy9 dX10_ledPast_53 ?_
        refine z_istore (lv' := [(0, .ref (X.2.2 109)), (1, .int v1), (2, .int v2), (3, .int v3), (4, .int (r3 / (gA M 110 5)))]) S [1, 2, 3, 4, 0] dX10_ledPast_54 (by decide) rfl ?_
        refine z_iload_n S dX10_ledPast_56 rfl 2 rfl ?_
        refine z_iconst (v := (-1)) S dX10_ledPast_57 (by decide) ?_
        refine z_icmp_eq (tgt := 111) S he dX10_ledPast_58 (by decide) (fun he => ?_) (fun he => ?_)
        · refine z_lv (ks := [0, 1, 3, 4]) rfl ?_
          exact p_X10_ledPast_J4_111 S  he hc hx
        · refine z_iload S dX10_ledPast_61 4 rfl ?_
          refine z_aload_n S dX10_ledPast_63 rfl 0 rfl ?_
          refine z_getF (j := 118) S fo_RX10_38 9 rfl rfl ok_109 dX10_ledPast_64 ?_
          refine z_iload_n S dX10_ledPast_67 rfl 1 rfl ?_
          refine z_iald S ok_118 rfl he dX10_ledPast_68 (fun he => ?_)
          refine z_icmp_gt (tgt := 121) S he dX10_ledPast_69 (by decide) (fun he => ?_) (fun he => ?_)
          · refine z_iinc (v := (v3 + 1)) (lv' := [(0, .ref (X.2.2 109)), (1, .int v1), (2, .int v2), (3, .int (v3 + 1)), (4, .int (r3 / (gA M 110 5)))]) S [1, 2, 3, 0, 4] 3 dX10_ledPast_121 rfl (by rfl) (by decide) rfl ?_
            refine z_goto (tgt := 4) S dX10_ledPast_124 (by decide) ?_
            refine z_lv (ks := [0, 1, 2, 3]) rfl ?_
            exact hc _ (Option.some.inj he).symm
          · refine z_iload S dX10_ledPast_72 4 rfl ?_
            refine z_aload_n S dX10_ledPast_74 rfl 0 rfl ?_
            refine z_getF (j := 118) S fo_RX10_38 9 rfl rfl ok_109 dX10_ledPast_75 ?_
            refine z_iload_n S dX10_ledPast_78 rfl 1 rfl ?_
            refine z_iald S ok_118 rfl he dX10_ledPast_79 (fun he => ?_)
            refine z_icmp_ne (tgt := 111) S he dX10_ledPast_80 (by decide) (fun he => ?_) (fun he => ?_)
            · refine z_lv (ks := [0, 1, 3, 4]) rfl ?_
              exact p_X10_ledPast_J4_111 S  he hc hx
            · refine z_aload_n S dX10_ledPast_83 rfl 0 rfl ?_
              refine z_getF (j := 116) S fo_RX10_32 7 rfl rfl ok_109 dX10_ledPast_84 ?_
              refine z_bipush (v := 10) S dX10_ledPast_87 (by decide) ?_
              refine z_iload_n S dX10_ledPast_89 rfl 3 rfl ?_
              refine z_imul S dX10_ledPast_90 ?_
              refine z_iload_n S dX10_ledPast_91 rfl 1 rfl ?_
              refine z_iadd S dX10_ledPast_92 ?_
              refine z_iald S ok_116 rfl he dX10_ledPast_93 (fun he => ?_)
              refine z_aload_n S dX10_ledPast_94 rfl 0 rfl ?_
              refine z_getF (j := 116) S fo_RX10_32 7 rfl rfl ok_109 dX10_ledPast_95 ?_
              refine z_bipush (v := 10) S dX10_ledPast_98 (by decide) ?_
              refine z_iload_n S dX10_ledPast_100 rfl 2 rfl ?_
              refine z_imul S dX10_ledPast_101 ?_
              refine z_iload_n S dX10_ledPast_102 rfl 1 rfl ?_
              refine z_iadd S dX10_ledPast_103 ?_
              refine z_iald S ok_116 rfl he dX10_ledPast_104 (fun he => ?_)
              refine z_icmp_gt (tgt := 111) S he dX10_ledPast_105 (by decide) (fun he => ?_) (fun he => ?_)
              · refine z_lv (ks := [0, 1, 3, 4]) rfl ?_
                exact p_X10_ledPast_J4_111 S  he hc hx
              · refine z_goto (tgt := 121) S dX10_ledPast_108 (by decide) ?_
                refine z_iinc (v := (v3 + 1)) (lv' := [(0, .ref (X.2.2 109)), (1, .int v1), (2, .int v2), (3, .int (v3 + 1)), (4, .int (r3 / (gA M 110 5)))]) S [1, 2, 3, 0, 4] 3 dX10_ledPast_121 rfl (by rfl) (by decide) rfl ?_
                refine z_goto (tgt := 4) S dX10_ledPast_124 (by decide) ?_
                refine z_lv (ks := [0, 1, 2, 3]) rfl ?_
                exact hc _ (Option.some.inj he).symm
      · refine z_goto (tgt := 121) S dX10_ledPast_38 (by decide) ?_
        refine z_iinc (v := (v3 + 1)) (lv' := [(0, .ref (X.2.2 109)), (1, .int v1), (2, .int v2), (3, .int (v3 + 1))]) S [1, 2, 3, 0] 3 dX10_ledPast_121 rfl (by rfl) (by decide) rfl ?_
        refine z_goto (tgt := 4) S dX10_ledPast_124 (by decide) ?_
        refine z_lv (ks := [0, 1, 2, 3]) rfl ?_
        exact hc _ (Option.some.inj he).symm
set_option maxRecDepth 100000 in
set_option maxHeartbeats 4000000 in
theorem K_X10_ledPast {X : Cx} {l : Launch} {M : Mm} {a1 : Int32} {r : Int32} {N : Mm}  (he : f_X10_ledPast M a1 = some (r, N)) : KI X 1 l yX10_ledPast (wz yX10_ledPast cX10_ledPast 5 (some .int)) rm_X10_ledPast [.ref (X.2.2 109), .int a1] M r N := by
  intro sz
  refine K_of (Qc := (fun sz => QI X 1 r N sz)) (own := RX10) (lv0 := [(0, .ref (X.2.2 109)), (1, .int a1)]) (by decide +kernel) rfl (Nat.le_of_ble_eq_true rfl) rfl (fun p e s m args below meth c S => ?_) sz
  · unfold f_X10_ledPast at he
    refine z_iconst (v := (-1)) S dX10_ledPast_0 (by decide) ?_
    refine z_istore_n (lv' := [(0, .ref (X.2.2 109)), (1, .int a1), (2, .int (-1))]) S [1, 2, 0] dX10_ledPast_1 rfl (by decide) rfl ?_
    refine z_iconst (v := 0) S dX10_ledPast_2 (by decide) ?_
    refine z_istore_n (lv' := [(0, .ref (X.2.2 109)), (1, .int a1), (2, .int (-1)), (3, .int 0)]) S [1, 2, 3, 0] dX10_ledPast_3 rfl (by decide) rfl ?_
    obtain ⟨e_5, hl, he⟩ := bnd he
    have hX : Z X 1 p l e rm_X10_ledPast s m args below meth c 0 0 (MQ below (QI X 1 r N s.heap.size) args s 0 0 (AA X 1 s.heap.size)) 5 e_5.1 127 [(2, .int e_5.2)] [] := by
      refine z_iload_n S dX10_ledPast_127 rfl 0 rfl ?_
      exact z_iret S (Prod.mk.inj (Option.some.inj he)) dX10_ledPast_128
    have hZ9 := loopZ (f := (fun a_5 => f_X10_ledPast_L4 a_5.1 a1 a_5.2.1 a_5.2.2)) (Zh := (fun a_5 => Z X 1 p l e rm_X10_ledPast s m args below meth c 0 0 (MQ below (QI X 1 r N s.heap.size) args s 0 0 (AA X 1 s.heap.size)) 5 a_5.1 4 [(0, .ref (X.2.2 109)), (1, .int a1), (2, .int a_5.2.1), (3, .int a_5.2.2)] [])) (fun a_5 x hb hc hr => p_X10_ledPast_L4 S  hb hc (fun b hxe => by rw [hr b hxe]; exact hX)) FU (M, (-1), 0) hl
    exact hZ9
set_option maxRecDepth 100000 in
set_option maxHeartbeats 4000000 in
theorem p_X10_leads_J6_38 {X : Cx} {p : Program} {l : Launch} {e : Env} {s : State} {m : MethodId} {args : Array Value} {below : List Frame} {meth : Method} {c : Code} (S : SB X 1 p s m args meth c cX10_leads 3 none RX10) {M : Mm} {N : Mm} {v1 : Int32} {v2 : Int32} {x : (Mm × Int32) ⊕ Mm}  (he : f_X10_leads_J6_38 M v1 v2 = some x) (hc : ∀ b, x = .inl b → Z X 1 p l e rm_X10_leads s m args below meth c 0 0 (MQ below (QV X 1 N s.heap.size) args s 0 0 (AA X 1 s.heap.size)) 3 b.1 6 [(0, .ref (X.2.2 109)), (1, .int v1), (2, .int b.2)] []) (hx : ∀ b, x = .inr b → Z X 1 p l e rm_X10_leads s m args below meth c 0 0 (MQ below (QV X 1 N s.heap.size) args s 0 0 (AA X 1 s.heap.size)) 3 b 80 [] []) : Z X 1 p l e rm_X10_leads s m args below meth c 0 0 (MQ below (QV X 1 N s.heap.size) args s 0 0 (AA X 1 s.heap.size)) 3 M 38 [(0, .ref (X.2.2 109)), (1, .int v1), (2, .int v2)] [] := by
  unfold f_X10_leads_J6_38 at he
  refine z_aload_n S dX10_leads_38 rfl 0 rfl ?_
  refine z_getF (j := 117) S fo_RX10_35 8 rfl rfl ok_109 dX10_leads_39 ?_
  refine z_iload_n S dX10_leads_42 rfl 2 rfl ?_
  refine z_aload_n S dX10_leads_43 rfl 0 rfl ?_
  refine z_iload_n S dX10_leads_44 rfl 2 rfl ?_
  obtain ⟨⟨r2, M3⟩, h9, he⟩ := bnd he
  dsimp only at he
  refine z_cVI (As := [.int v2]) S cv_RX10_268 (K_X10_ledPast  h9) ok_109 (by decide) (q := (RX10, TX10, 28)) rfl rfl ⟨rfl, rfl⟩ ⟨Nat.le_of_ble_eq_true rfl, Nat.le_of_ble_eq_true rfl⟩ ⟨Nat.le_refl _, Nat.le_refl _⟩ rfl rfl (Nat.le_of_ble_eq_true rfl) dX10_leads_45 ?_
  refine z_iastb S ok_117 rfl he dX10_leads_48 (fun M4 he => ?_)
  refine z_aload_n S dX10_leads_49 rfl 0 rfl ?_
  refine z_getF (j := 117) S fo_RX10_35 8 rfl rfl ok_109 dX10_leads_50 ?_
  refine z_iload_n S dX10_leads_53 rfl 2 rfl ?_
  refine z_iald S ok_117 rfl he dX10_leads_54 (fun he => ?_)
  refine z_iconst (v := (-1)) S dX10_leads_55 (by decide) ?_
  refine z_icmp_eq (tgt := 74) S he dX10_leads_56 (by decide) (fun he => ?_) (fun he => ?_)
  · refine z_iinc (v := (v2 + 1)) (lv' := [(0, .ref (X.2.2 109)), (1, .int v1), (2, .int (v2 + 1))]) S [1, 2, 0] 2 dX10_leads_74 rfl (by rfl) (by decide) rfl ?_
    refine z_goto (tgt := 6) S dX10_leads_77 (by decide) ?_
    refine z_lv (ks := [0, 1, 2]) rfl ?_
    exact hc _ (Option.some.inj he).symm
  · refine z_aload_n S dX10_leads_59 rfl 0 rfl ?_
    refine z_getF (j := 119) S fo_RX10_41 10 rfl rfl ok_109 dX10_leads_60 ?_
    refine z_aload_n S dX10_leads_63 rfl 0 rfl ?_
    refine z_getF (j := 117) S fo_RX10_35 8 rfl rfl ok_109 dX10_leads_64 ?_
    refine z_iload_n S dX10_leads_67 rfl 2 rfl ?_
    refine z_iald S ok_117 rfl he dX10_leads_68 (fun he => ?_)
    refine z_dup2 S dX10_leads_69 rfl rfl ?_
    refine z_iald S ok_119 rfl he dX10_leads_70 (fun he => ?_)
    refine z_iconst (v := 1) S dX10_leads_71 (by decide) ?_
    refine z_iadd S dX10_leads_72 ?_
    refine z_iastb S ok_119 rfl he dX10_leads_73 (fun M5 he => ?_)
    refine z_iinc (v := (v2 + 1)) (lv' := [(0, .ref (X.2.2 109)), (1, .int v1), (2, .int (v2 + 1))]) S [1, 2, 0] 2 dX10_leads_74 rfl (by rfl) (by decide) rfl ?_
    refine z_goto (tgt := 6) S dX10_leads_77 (by decide) ?_
    refine z_lv (ks := [0, 1, 2]) rfl ?_
    exact hc _ (Option.some.inj he).symm
set_option maxRecDepth 100000 in
set_option maxHeartbeats 4000000 in
theorem p_X10_leads_L6 {X : Cx} {p : Program} {l : Launch} {e : Env} {s : State} {m : MethodId} {args : Array Value} {below : List Frame} {meth : Method} {c : Code} (S : SB X 1 p s m args meth c cX10_leads 3 none RX10) {M : Mm} {N : Mm} {v1 : Int32} {v2 : Int32} {x : (Mm × Int32) ⊕ Mm}  (he : f_X10_leads_L6 M v1 v2 = some x) (hc : ∀ b, x = .inl b → Z X 1 p l e rm_X10_leads s m args below meth c 0 0 (MQ below (QV X 1 N s.heap.size) args s 0 0 (AA X 1 s.heap.size)) 3 b.1 6 [(0, .ref (X.2.2 109)), (1, .int v1), (2, .int b.2)] []) (hx : ∀ b, x = .inr b → Z X 1 p l e rm_X10_leads s m args below meth c 0 0 (MQ below (QV X 1 N s.heap.size) args s 0 0 (AA X 1 s.heap.size)) 3 b 80 [] []) : Z X 1 p l e rm_X10_leads s m args below meth c 0 0 (MQ below (QV X 1 N s.heap.size) args s 0 0 (AA X 1 s.heap.size)) 3 M 6 [(0, .ref (X.2.2 109)), (1, .int v1), (2, .int v2)] [] := by
  unfold f_X10_leads_L6 at he
  refine z_iload_n S dX10_leads_6 rfl 2 rfl ?_
  refine z_aload_n S dX10_leads_7 rfl 0 rfl ?_
  refine z_getF (j := 110) S fo_RX10_7 1 rfl rfl ok_109 dX10_leads_8 ?_
  refine z_iconst (v := 4) S dX10_leads_11 (by decide) ?_
  refine z_iald S ok_110 rfl he dX10_leads_12 (fun he => ?_)
  refine z_icmp_ge (tgt := 80) S he dX10_leads_13 (by decide) (fun he => ?_) (fun he => ?_)
  · refine z_lv (ks := []) rfl ?_
    exact hx _ (Option.some.inj he).symm
  · refine z_iload_n S dX10_leads_16 rfl 1 rfl ?_
    refine z_if_eq (tgt := 38) S he dX10_leads_17 (by decide) (fun he => ?_) (fun he => ?_)
    · exact p_X10_leads_J6_38 S  he hc hx
    · refine z_aload_n S dX10_leads_20 rfl 0 rfl ?_
      refine z_bipush (v := 100) S dX10_leads_21 (by decide) ?_
      obtain ⟨⟨r6, M7⟩, h9, he⟩ := bnd he
      dsimp only at he
      refine z_cVI (As := [.int 100]) S cv_RX10_265 (K_X10_draw  h9) ok_109 (by decide) (q := (RX10, TX10, 28)) rfl rfl ⟨rfl, rfl⟩ ⟨Nat.le_of_ble_eq_true rfl, Nat.le_of_ble_eq_true rfl⟩ ⟨Nat.le_refl _, Nat.le_refl _⟩ rfl rfl (Nat.le_of_ble_eq_true rfl) dX10_leads_23 ?_
      refine z_aload_n S dX10_leads_26 rfl 0 rfl ?_
      refine z_iload_n S dX10_leads_27 rfl 2 rfl ?_
      refine z_iconst (v := 3) S dX10_leads_28 (by decide) ?_
      obtain ⟨r8, h9, he⟩ := bnd he
      refine z_cVI (As := [.int v2, .int 3]) S cv_RX10_246 (K_X10_ofOne  h9) ok_109 (by decide) (q := (RX10, TX10, 28)) rfl rfl ⟨rfl, rfl⟩ ⟨Nat.le_of_ble_eq_true rfl, Nat.le_of_ble_eq_true rfl⟩ ⟨Nat.le_refl _, Nat.le_refl _⟩ rfl rfl (Nat.le_of_ble_eq_true rfl) dX10_leads_29 ?_
      refine z_icmp_ge (tgt := 38) S he dX10_leads_32 (by decide) (fun he => ?_) (fun he => ?_)
      · exact p_X10_leads_J6_38 S  he hc hx
      · refine z_goto (tgt := 74) S dX10_leads_35 (by decide) ?_
        refine z_iinc (v := (v2 + 1)) (lv' := [(0, .ref (X.2.2 109)), (1, .int v1), (2, .int (v2 + 1))]) S [1, 2, 0] 2 dX10_leads_74 rfl (by rfl) (by decide) rfl ?_
        refine z_goto (tgt := 6) S dX10_leads_77 (by decide) ?_
        refine z_lv (ks := [0, 1, 2]) rfl ?_
        exact hc _ (Option.some.inj he).symm
set_option maxRecDepth 100000 in
set_option maxHeartbeats 4000000 in
theorem K_X10_leads {X : Cx} {l : Launch} {M : Mm} {a1 : Int32} {N : Mm}  (he : f_X10_leads M a1 = some N) : KV X 1 l yX10_leads (wz yX10_leads cX10_leads 3 none) rm_X10_leads [.ref (X.2.2 109), .int a1] M N := by
  intro sz
  refine K_of (Qc := (fun sz => QV X 1 N sz)) (own := RX10) (lv0 := [(0, .ref (X.2.2 109)), (1, .int a1)]) (by decide +kernel) rfl (Nat.le_of_ble_eq_true rfl) rfl (fun p e s m args below meth c S => ?_) sz
  · unfold f_X10_leads at he
    refine z_aload_n S dX10_leads_0 rfl 0 rfl ?_
    obtain ⟨M1, h9, he⟩ := bnd he
    refine z_cVV (As := []) S cv_RX10_262 (K_X10_beginsDay  h9) ok_109 (by decide) (q := (RX10, TX10, 28)) rfl rfl ⟨rfl, rfl⟩ ⟨Nat.le_of_ble_eq_true rfl, Nat.le_of_ble_eq_true rfl⟩ ⟨Nat.le_refl _, Nat.le_refl _⟩ rfl rfl (Nat.le_of_ble_eq_true rfl) dX10_leads_1 ?_
    refine z_iconst (v := 0) S dX10_leads_4 (by decide) ?_
    refine z_istore_n (lv' := [(0, .ref (X.2.2 109)), (1, .int a1), (2, .int 0)]) S [1, 2, 0] dX10_leads_5 rfl (by decide) rfl ?_
    obtain ⟨e_9, hl, he⟩ := bnd he
    have hX : Z X 1 p l e rm_X10_leads s m args below meth c 0 0 (MQ below (QV X 1 N s.heap.size) args s 0 0 (AA X 1 s.heap.size)) 3 e_9 80 [] [] := by
      exact z_vret S (Option.some.inj he) dX10_leads_80
    have hZ9 := loopZ (f := (fun a_9 => f_X10_leads_L6 a_9.1 a1 a_9.2)) (Zh := (fun a_9 => Z X 1 p l e rm_X10_leads s m args below meth c 0 0 (MQ below (QV X 1 N s.heap.size) args s 0 0 (AA X 1 s.heap.size)) 3 a_9.1 6 [(0, .ref (X.2.2 109)), (1, .int a1), (2, .int a_9.2)] [])) (fun a_9 x hb hc hr => p_X10_leads_L6 S  hb hc (fun b hxe => by rw [hr b hxe]; exact hX)) FU (M1, 0) hl
    exact hZ9
set_option maxRecDepth 100000 in
set_option maxHeartbeats 4000000 in
theorem K_X10_lesser {X : Cx} {l : Launch} {M : Mm} {a0 : Int32} {a1 : Int32} {r : Int32}  (he : f_X10_lesser M a0 a1 = r) : KI X 1 l yX10_lesser (wz yX10_lesser cX10_lesser 2 (some .int)) rm_X10_lesser [.int a0, .int a1] M r M := by
  intro sz
  refine K_of (Qc := (fun sz => QI X 1 r M sz)) (own := RX10) (lv0 := [(0, .int a0), (1, .int a1)]) (by decide +kernel) rfl (Nat.le_of_ble_eq_true rfl) rfl (fun p e s m args below meth c S => ?_) sz
  · unfold f_X10_lesser at he
    refine z_iload_n S dX10_lesser_0 rfl 0 rfl ?_
    refine z_iload_n S dX10_lesser_1 rfl 1 rfl ?_
    refine z_icmp_ge (tgt := 9) S he dX10_lesser_2 (by decide) (fun he => ?_) (fun he => ?_)
    · refine z_iload_n S dX10_lesser_9 rfl 1 rfl ?_
      exact z_iret S (⟨he, rfl⟩) dX10_lesser_10
    · refine z_iload_n S dX10_lesser_5 rfl 0 rfl ?_
      refine z_goto (tgt := 10) S dX10_lesser_6 (by decide) ?_
      exact z_iret S (⟨he, rfl⟩) dX10_lesser_10
set_option maxRecDepth 100000 in
set_option maxHeartbeats 4000000 in
theorem p_X10_goesBy_L44 {X : Cx} {p : Program} {l : Launch} {e : Env} {s : State} {m : MethodId} {args : Array Value} {below : List Frame} {meth : Method} {c : Code} (S : SB X 1 p s m args meth c cX10_goesBy 5 (some .int) RX10) {M : Mm} {N : Mm} {r : Int32} {v2 : Int32} {v3 : Int32} {v4 : Int32} {x : (Mm × Int32) ⊕ Mm}  (he : f_X10_goesBy_L44 M v2 v3 v4 = some x) (hc : ∀ b, x = .inl b → Z X 1 p l e rm_X10_goesBy s m args below meth c 0 0 (MQ below (QI X 1 r N s.heap.size) args s 0 0 (AA X 1 s.heap.size)) 5 b.1 44 [(0, .ref (X.2.2 109)), (2, .int v2), (3, .int v3), (4, .int b.2)] []) (hx : ∀ b, x = .inr b → Z X 1 p l e rm_X10_goesBy s m args below meth c 0 0 (MQ below (QI X 1 r N s.heap.size) args s 0 0 (AA X 1 s.heap.size)) 5 b 78 [(0, .ref (X.2.2 109)), (2, .int v2), (3, .int v3)] []) : Z X 1 p l e rm_X10_goesBy s m args below meth c 0 0 (MQ below (QI X 1 r N s.heap.size) args s 0 0 (AA X 1 s.heap.size)) 5 M 44 [(0, .ref (X.2.2 109)), (2, .int v2), (3, .int v3), (4, .int v4)] [] := by
  unfold f_X10_goesBy_L44 at he
  refine z_iload S dX10_goesBy_44 3 rfl ?_
  refine z_iconst (v := 5) S dX10_goesBy_46 (by decide) ?_
  refine z_icmp_lt (tgt := 78) S he dX10_goesBy_47 (by decide) (fun he => ?_) (fun he => ?_)
  · refine z_lv (ks := [0, 1, 2]) rfl ?_
    exact hx _ (Option.some.inj he).symm
  · refine z_aload_n S dX10_goesBy_50 rfl 0 rfl ?_
    refine z_getF (j := 110) S fo_RX10_7 1 rfl rfl ok_109 dX10_goesBy_51 ?_
    refine z_bipush (v := 107) S dX10_goesBy_54 (by decide) ?_
    refine z_iload S dX10_goesBy_56 3 rfl ?_
    refine z_iadd S dX10_goesBy_58 ?_
    refine z_aload_n S dX10_goesBy_59 rfl 0 rfl ?_
    refine z_getF (j := 110) S fo_RX10_7 1 rfl rfl ok_109 dX10_goesBy_60 ?_
    refine z_bipush (v := 107) S dX10_goesBy_63 (by decide) ?_
    refine z_iload S dX10_goesBy_65 3 rfl ?_
    refine z_iadd S dX10_goesBy_67 ?_
    refine z_iconst (v := 5) S dX10_goesBy_68 (by decide) ?_
    refine z_isub S dX10_goesBy_69 ?_
    refine z_iald S ok_110 rfl he dX10_goesBy_70 (fun he => ?_)
    refine z_iastb S ok_110 rfl he dX10_goesBy_71 (fun M3 he => ?_)
    refine z_iinc (v := (v4 + (-1))) (lv' := [(0, .ref (X.2.2 109)), (2, .int v2), (3, .int v3), (4, .int (v4 + (-1)))]) S [1, 2, 3, 0] 3 dX10_goesBy_72 rfl (by rfl) (by decide) rfl ?_
    refine z_goto (tgt := 44) S dX10_goesBy_75 (by decide) ?_
    refine z_lv (ks := [0, 1, 2, 3]) rfl ?_
    exact hc _ (Option.some.inj he).symm
set_option maxRecDepth 100000 in
set_option maxHeartbeats 4000000 in
theorem p_X10_goesBy_L13 {X : Cx} {p : Program} {l : Launch} {e : Env} {s : State} {m : MethodId} {args : Array Value} {below : List Frame} {meth : Method} {c : Code} (S : SB X 1 p s m args meth c cX10_goesBy 5 (some .int) RX10) {M : Mm} {N : Mm} {r : Int32} {v2 : Int32} {v3 : Int32} {x : (Mm × Int32 × Int32) ⊕ (Mm × Int32)}  (he : f_X10_goesBy_L13 M v2 v3 = some x) (hc : ∀ b, x = .inl b → Z X 1 p l e rm_X10_goesBy s m args below meth c 0 0 (MQ below (QI X 1 r N s.heap.size) args s 0 0 (AA X 1 s.heap.size)) 5 b.1 13 [(0, .ref (X.2.2 109)), (2, .int b.2.1), (3, .int b.2.2)] []) (hx : ∀ b, x = .inr b → Z X 1 p l e rm_X10_goesBy s m args below meth c 0 0 (MQ below (QI X 1 r N s.heap.size) args s 0 0 (AA X 1 s.heap.size)) 5 b.1 176 [(0, .ref (X.2.2 109)), (2, .int b.2)] []) : Z X 1 p l e rm_X10_goesBy s m args below meth c 0 0 (MQ below (QI X 1 r N s.heap.size) args s 0 0 (AA X 1 s.heap.size)) 5 M 13 [(0, .ref (X.2.2 109)), (2, .int v2), (3, .int v3)] [] := by
  unfold f_X10_goesBy_L13 at he
  refine z_iload_n S dX10_goesBy_13 rfl 2 rfl ?_
  refine z_aload_n S dX10_goesBy_14 rfl 0 rfl ?_
  refine z_getF (j := 110) S fo_RX10_7 1 rfl rfl ok_109 dX10_goesBy_15 ?_
  refine z_iconst (v := 4) S dX10_goesBy_18 (by decide) ?_
  refine z_iald S ok_110 rfl he dX10_goesBy_19 (fun he => ?_)
  refine z_icmp_ge (tgt := 176) S he dX10_goesBy_20 (by decide) (fun he => ?_) (fun he => ?_)
  · refine z_lv (ks := [0, 1]) rfl ?_
    exact hx _ (Option.some.inj he).symm
  · refine z_aload_n S dX10_goesBy_23 rfl 0 rfl ?_
    refine z_getF (j := 117) S fo_RX10_35 8 rfl rfl ok_109 dX10_goesBy_24 ?_
    refine z_iload_n S dX10_goesBy_27 rfl 2 rfl ?_
    refine z_iald S ok_117 rfl he dX10_goesBy_28 (fun he => ?_)
    refine z_iconst (v := (-1)) S dX10_goesBy_29 (by decide) ?_
    refine z_icmp_ne (tgt := 36) S he dX10_goesBy_30 (by decide) (fun he => ?_) (fun he => ?_)
    · refine z_iinc (v := (v2 + 1)) (lv' := [(0, .ref (X.2.2 109)), (2, .int (v2 + 1)), (3, .int v3)]) S [1, 0, 2] 1 dX10_goesBy_36 rfl (by rfl) (by decide) rfl ?_
      refine z_sipush (v := 299) S dX10_goesBy_39 (by decide) ?_
      refine z_istore (lv' := [(0, .ref (X.2.2 109)), (2, .int (v2 + 1)), (3, .int v3), (4, .int 299)]) S [1, 2, 3, 0] dX10_goesBy_42 (by decide) rfl ?_
      obtain ⟨e_4, hl, he⟩ := bnd he
      have hX : Z X 1 p l e rm_X10_goesBy s m args below meth c 0 0 (MQ below (QI X 1 r N s.heap.size) args s 0 0 (AA X 1 s.heap.size)) 5 e_4 78 [(0, .ref (X.2.2 109)), (2, .int (v2 + 1)), (3, .int v3)] [] := by
        refine z_aload_n S dX10_goesBy_78 rfl 0 rfl ?_
        refine z_getF (j := 110) S fo_RX10_7 1 rfl rfl ok_109 dX10_goesBy_79 ?_
        refine z_bipush (v := 107) S dX10_goesBy_82 (by decide) ?_
        refine z_aload_n S dX10_goesBy_84 rfl 0 rfl ?_
        refine z_getF (j := 110) S fo_RX10_7 1 rfl rfl ok_109 dX10_goesBy_85 ?_
        refine z_bipush (v := 6) S dX10_goesBy_88 (by decide) ?_
        refine z_iald S ok_110 rfl he dX10_goesBy_90 (fun he => ?_)
        refine z_iastb S ok_110 rfl he dX10_goesBy_91 (fun M5 he => ?_)
        refine z_aload_n S dX10_goesBy_92 rfl 0 rfl ?_
        refine z_getF (j := 110) S fo_RX10_7 1 rfl rfl ok_109 dX10_goesBy_93 ?_
        refine z_bipush (v := 108) S dX10_goesBy_96 (by decide) ?_
        refine z_iload_n S dX10_goesBy_98 rfl 2 rfl ?_
        refine z_iastb S ok_110 rfl he dX10_goesBy_99 (fun M6 he => ?_)
        refine z_aload_n S dX10_goesBy_100 rfl 0 rfl ?_
        refine z_getF (j := 110) S fo_RX10_7 1 rfl rfl ok_109 dX10_goesBy_101 ?_
        refine z_bipush (v := 109) S dX10_goesBy_104 (by decide) ?_
        refine z_aload_n S dX10_goesBy_106 rfl 0 rfl ?_
        refine z_getF (j := 117) S fo_RX10_35 8 rfl rfl ok_109 dX10_goesBy_107 ?_
        refine z_iload_n S dX10_goesBy_110 rfl 2 rfl ?_
        refine z_iald S ok_117 rfl he dX10_goesBy_111 (fun he => ?_)
        refine z_iastb S ok_110 rfl he dX10_goesBy_112 (fun M7 he => ?_)
        refine z_aload_n S dX10_goesBy_113 rfl 0 rfl ?_
        refine z_getF (j := 110) S fo_RX10_7 1 rfl rfl ok_109 dX10_goesBy_114 ?_
        refine z_bipush (v := 110) S dX10_goesBy_117 (by decide) ?_
        refine z_aload_n S dX10_goesBy_119 rfl 0 rfl ?_
        refine z_getF (j := 116) S fo_RX10_32 7 rfl rfl ok_109 dX10_goesBy_120 ?_
        refine z_bipush (v := 10) S dX10_goesBy_123 (by decide) ?_
        refine z_aload_n S dX10_goesBy_125 rfl 0 rfl ?_
        refine z_getF (j := 117) S fo_RX10_35 8 rfl rfl ok_109 dX10_goesBy_126 ?_
        refine z_iload_n S dX10_goesBy_129 rfl 2 rfl ?_
        refine z_iald S ok_117 rfl he dX10_goesBy_130 (fun he => ?_)
        refine z_imul S dX10_goesBy_131 ?_
        refine z_iload_n S dX10_goesBy_132 rfl 2 rfl ?_
        refine z_iadd S dX10_goesBy_133 ?_
        refine z_iald S ok_116 rfl he dX10_goesBy_134 (fun he => ?_)
        refine z_iastb S ok_110 rfl he dX10_goesBy_135 (fun M8 he => ?_)
        refine z_aload_n S dX10_goesBy_136 rfl 0 rfl ?_
        refine z_getF (j := 110) S fo_RX10_7 1 rfl rfl ok_109 dX10_goesBy_137 ?_
        refine z_bipush (v := 111) S dX10_goesBy_140 (by decide) ?_
        refine z_aload_n S dX10_goesBy_142 rfl 0 rfl ?_
        refine z_getF (j := 118) S fo_RX10_38 9 rfl rfl ok_109 dX10_goesBy_143 ?_
        refine z_iload_n S dX10_goesBy_146 rfl 2 rfl ?_
        refine z_iald S ok_118 rfl he dX10_goesBy_147 (fun he => ?_)
        refine z_iastb S ok_110 rfl he dX10_goesBy_148 (fun M9 he => ?_)
        refine z_aload_n S dX10_goesBy_149 rfl 0 rfl ?_
        refine z_getF (j := 110) S fo_RX10_7 1 rfl rfl ok_109 dX10_goesBy_150 ?_
        refine z_bipush (v := 8) S dX10_goesBy_153 (by decide) ?_
        refine z_bipush (v := 60) S dX10_goesBy_155 (by decide) ?_
        refine z_aload_n S dX10_goesBy_157 rfl 0 rfl ?_
        refine z_getF (j := 110) S fo_RX10_7 1 rfl rfl ok_109 dX10_goesBy_158 ?_
        refine z_bipush (v := 8) S dX10_goesBy_161 (by decide) ?_
        refine z_iald S ok_110 rfl he dX10_goesBy_163 (fun he => ?_)
        refine z_iconst (v := 1) S dX10_goesBy_164 (by decide) ?_
        refine z_iadd S dX10_goesBy_165 ?_
        refine z_cSI (As := [.int 60, .int ((gA M9 110 8) + 1)]) S cs_RX10_279 (K_X10_lesser  rfl) ⟨rfl, rfl⟩ ⟨Nat.le_of_ble_eq_true rfl, Nat.le_of_ble_eq_true rfl⟩ ⟨Nat.le_refl _, Nat.le_refl _⟩ rfl rfl (Nat.le_of_ble_eq_true rfl) dX10_goesBy_166 ?_
        refine z_iastb S ok_110 rfl he dX10_goesBy_169 (fun M10 he => ?_)
        refine z_iinc (v := (v3 + 1)) (lv' := [(0, .ref (X.2.2 109)), (2, .int (v2 + 1)), (3, .int (v3 + 1))]) S [1, 2, 0] 2 dX10_goesBy_170 rfl (by rfl) (by decide) rfl ?_
        refine z_goto (tgt := 13) S dX10_goesBy_173 (by decide) ?_
        refine z_lv (ks := [0, 1, 2]) rfl ?_
        exact hc _ (Option.some.inj he).symm
      have hZ9 := loopZ (f := (fun a_4 => f_X10_goesBy_L44 a_4.1 (v2 + 1) v3 a_4.2)) (Zh := (fun a_4 => Z X 1 p l e rm_X10_goesBy s m args below meth c 0 0 (MQ below (QI X 1 r N s.heap.size) args s 0 0 (AA X 1 s.heap.size)) 5 a_4.1 44 [(0, .ref (X.2.2 109)), (2, .int (v2 + 1)), (3, .int v3), (4, .int a_4.2)] [])) (fun a_4 x hb hc hr => p_X10_goesBy_L44 S  hb hc (fun b hxe => by rw [hr b hxe]; exact hX)) FU (M, 299) hl
      exact hZ9
    · refine z_goto (tgt := 170) S dX10_goesBy_33 (by decide) ?_
      refine z_iinc (v := (v3 + 1)) (lv' := [(0, .ref (X.2.2 109)), (2, .int v2), (3, .int (v3 + 1))]) S [1, 2, 0] 2 dX10_goesBy_170 rfl (by rfl) (by decide) rfl ?_
      refine z_goto (tgt := 13) S dX10_goesBy_173 (by decide) ?_
      refine z_lv (ks := [0, 1, 2]) rfl ?_
      exact hc _ (Option.some.inj he).symm
set_option maxRecDepth 100000 in
set_option maxHeartbeats 4000000 in
theorem p_X10_goesBy_J178_236 {X : Cx} {p : Program} {l : Launch} {e : Env} {s : State} {m : MethodId} {args : Array Value} {below : List Frame} {meth : Method} {c : Code} (S : SB X 1 p s m args meth c cX10_goesBy 5 (some .int) RX10) {M : Mm} {N : Mm} {r : Int32} {v2 : Int32} {v3 : Int32} {t0 : Int32} {t1 : Int32} {x : (Mm × Int32) ⊕ Mm}  (he : f_X10_goesBy_J178_236 M v2 v3 t0 t1 = some x) (hc : ∀ b, x = .inl b → Z X 1 p l e rm_X10_goesBy s m args below meth c 0 0 (MQ below (QI X 1 r N s.heap.size) args s 0 0 (AA X 1 s.heap.size)) 5 b.1 178 [(0, .ref (X.2.2 109)), (2, .int v2), (3, .int b.2)] []) (hx : ∀ b, x = .inr b → Z X 1 p l e rm_X10_goesBy s m args below meth c 0 0 (MQ below (QI X 1 r N s.heap.size) args s 0 0 (AA X 1 s.heap.size)) 5 b 243 [(0, .ref (X.2.2 109)), (2, .int v2)] []) : Z X 1 p l e rm_X10_goesBy s m args below meth c 0 0 (MQ below (QI X 1 r N s.heap.size) args s 0 0 (AA X 1 s.heap.size)) 5 M 236 [(0, .ref (X.2.2 109)), (2, .int v2), (3, .int v3)] [.int t0, .int t1, .ref (X.2.2 110)] := by
  unfold f_X10_goesBy_J178_236 at he
  refine z_iastb S ok_110 rfl he dX10_goesBy_236 (fun M14 he => ?_)
  refine z_iinc (v := (v3 + 1)) (lv' := [(0, .ref (X.2.2 109)), (2, .int v2), (3, .int (v3 + 1))]) S [1, 2, 0] 2 dX10_goesBy_237 rfl (by rfl) (by decide) rfl ?_
  refine z_goto (tgt := 178) S dX10_goesBy_240 (by decide) ?_
  refine z_lv (ks := [0, 1, 2]) rfl ?_
  exact hc _ (Option.some.inj he).symm
set_option maxRecDepth 100000 in
set_option maxHeartbeats 4000000 in
theorem p_X10_goesBy_L178 {X : Cx} {p : Program} {l : Launch} {e : Env} {s : State} {m : MethodId} {args : Array Value} {below : List Frame} {meth : Method} {c : Code} (S : SB X 1 p s m args meth c cX10_goesBy 5 (some .int) RX10) {M : Mm} {N : Mm} {r : Int32} {v2 : Int32} {v3 : Int32} {x : (Mm × Int32) ⊕ Mm}  (he : f_X10_goesBy_L178 M v2 v3 = some x) (hc : ∀ b, x = .inl b → Z X 1 p l e rm_X10_goesBy s m args below meth c 0 0 (MQ below (QI X 1 r N s.heap.size) args s 0 0 (AA X 1 s.heap.size)) 5 b.1 178 [(0, .ref (X.2.2 109)), (2, .int v2), (3, .int b.2)] []) (hx : ∀ b, x = .inr b → Z X 1 p l e rm_X10_goesBy s m args below meth c 0 0 (MQ below (QI X 1 r N s.heap.size) args s 0 0 (AA X 1 s.heap.size)) 5 b 243 [(0, .ref (X.2.2 109)), (2, .int v2)] []) : Z X 1 p l e rm_X10_goesBy s m args below meth c 0 0 (MQ below (QI X 1 r N s.heap.size) args s 0 0 (AA X 1 s.heap.size)) 5 M 178 [(0, .ref (X.2.2 109)), (2, .int v2), (3, .int v3)] [] := by
  unfold f_X10_goesBy_L178 at he
  refine z_iload_n S dX10_goesBy_178 rfl 2 rfl ?_
  refine z_aload_n S dX10_goesBy_179 rfl 0 rfl ?_
  refine z_getF (j := 110) S fo_RX10_7 1 rfl rfl ok_109 dX10_goesBy_180 ?_
  refine z_iconst (v := 3) S dX10_goesBy_183 (by decide) ?_
  refine z_iald S ok_110 rfl he dX10_goesBy_184 (fun he => ?_)
  refine z_icmp_ge (tgt := 243) S he dX10_goesBy_185 (by decide) (fun he => ?_) (fun he => ?_)
  · refine z_lv (ks := [0, 1]) rfl ?_
    exact hx _ (Option.some.inj he).symm
  · refine z_aload_n S dX10_goesBy_188 rfl 0 rfl ?_
    refine z_iload_n S dX10_goesBy_189 rfl 2 rfl ?_
    refine z_iconst (v := 3) S dX10_goesBy_190 (by decide) ?_
    obtain ⟨r12, h9, he⟩ := bnd he
    refine z_cVI (As := [.int v3, .int 3]) S cv_RX10_70 (K_X10_of  h9) ok_109 (by decide) (q := (RX10, TX10, 28)) rfl rfl ⟨rfl, rfl⟩ ⟨Nat.le_of_ble_eq_true rfl, Nat.le_of_ble_eq_true rfl⟩ ⟨Nat.le_refl _, Nat.le_refl _⟩ rfl rfl (Nat.le_of_ble_eq_true rfl) dX10_goesBy_191 ?_
    refine z_iconst (v := 1) S dX10_goesBy_194 (by decide) ?_
    refine z_icmp_ne (tgt := 237) S he dX10_goesBy_195 (by decide) (fun he => ?_) (fun he => ?_)
    · refine z_iinc (v := (v3 + 1)) (lv' := [(0, .ref (X.2.2 109)), (2, .int v2), (3, .int (v3 + 1))]) S [1, 2, 0] 2 dX10_goesBy_237 rfl (by rfl) (by decide) rfl ?_
      refine z_goto (tgt := 178) S dX10_goesBy_240 (by decide) ?_
      refine z_lv (ks := [0, 1, 2]) rfl ?_
      exact hc _ (Option.some.inj he).symm
    · refine z_aload_n S dX10_goesBy_198 rfl 0 rfl ?_
      refine z_getF (j := 110) S fo_RX10_7 1 rfl rfl ok_109 dX10_goesBy_199 ?_
      refine z_bipush (v := 12) S dX10_goesBy_202 (by decide) ?_
      refine z_iconst (v := 5) S dX10_goesBy_204 (by decide) ?_
      refine z_iload_n S dX10_goesBy_205 rfl 2 rfl ?_
      refine z_imul S dX10_goesBy_206 ?_
      refine z_iadd S dX10_goesBy_207 ?_
      refine z_iconst (v := 4) S dX10_goesBy_208 (by decide) ?_
      refine z_iadd S dX10_goesBy_209 ?_
      refine z_aload_n S dX10_goesBy_210 rfl 0 rfl ?_
      refine z_getF (j := 119) S fo_RX10_41 10 rfl rfl ok_109 dX10_goesBy_211 ?_
      refine z_iload_n S dX10_goesBy_214 rfl 2 rfl ?_
      refine z_iald S ok_119 rfl he dX10_goesBy_215 (fun he => ?_)
      refine z_if_le (tgt := 223) S he dX10_goesBy_216 (by decide) (fun he => ?_) (fun he => ?_)
      · refine z_bipush (v := 99) S dX10_goesBy_223 (by decide) ?_
        refine z_aload_n S dX10_goesBy_225 rfl 0 rfl ?_
        refine z_iload_n S dX10_goesBy_226 rfl 2 rfl ?_
        refine z_iconst (v := 4) S dX10_goesBy_227 (by decide) ?_
        obtain ⟨r13, h9, he⟩ := bnd he
        refine z_cVI (As := [.int v3, .int 4]) S cv_RX10_70 (K_X10_of  h9) ok_109 (by decide) (q := (RX10, TX10, 28)) rfl rfl ⟨rfl, rfl⟩ ⟨Nat.le_of_ble_eq_true rfl, Nat.le_of_ble_eq_true rfl⟩ ⟨Nat.le_refl _, Nat.le_refl _⟩ rfl rfl (Nat.le_of_ble_eq_true rfl) dX10_goesBy_228 ?_
        refine z_iconst (v := 1) S dX10_goesBy_231 (by decide) ?_
        refine z_iadd S dX10_goesBy_232 ?_
        refine z_cSI (As := [.int 99, .int (r13 + 1)]) S cs_RX10_279 (K_X10_lesser  rfl) ⟨rfl, rfl⟩ ⟨Nat.le_of_ble_eq_true rfl, Nat.le_of_ble_eq_true rfl⟩ ⟨Nat.le_refl _, Nat.le_refl _⟩ rfl rfl (Nat.le_of_ble_eq_true rfl) dX10_goesBy_233 ?_
        exact p_X10_goesBy_J178_236 S  he hc hx
      · refine z_iconst (v := 0) S dX10_goesBy_219 (by decide) ?_
        refine z_goto (tgt := 236) S dX10_goesBy_220 (by decide) ?_
        exact p_X10_goesBy_J178_236 S  he hc hx
set_option maxRecDepth 100000 in
set_option maxHeartbeats 4000000 in
theorem K_X10_goesBy {X : Cx} {l : Launch} {M : Mm} {a1 : Int32} {r : Int32} {N : Mm}  (he : f_X10_goesBy M a1 = some (r, N)) : KI X 1 l yX10_goesBy (wz yX10_goesBy cX10_goesBy 5 (some .int)) rm_X10_goesBy [.ref (X.2.2 109), .int a1] M r N := by
  intro sz
  refine K_of (Qc := (fun sz => QI X 1 r N sz)) (own := RX10) (lv0 := [(0, .ref (X.2.2 109)), (1, .int a1)]) (by decide +kernel) rfl (Nat.le_of_ble_eq_true rfl) rfl (fun p e s m args below meth c S => ?_) sz
  · unfold f_X10_goesBy at he
    refine z_aload_n S dX10_goesBy_0 rfl 0 rfl ?_
    obtain ⟨M1, h9, he⟩ := bnd he
    refine z_cVV (As := []) S cv_RX10_272 (K_X10_asks  h9) ok_109 (by decide) (q := (RX10, TX10, 28)) rfl rfl ⟨rfl, rfl⟩ ⟨Nat.le_of_ble_eq_true rfl, Nat.le_of_ble_eq_true rfl⟩ ⟨Nat.le_refl _, Nat.le_refl _⟩ rfl rfl (Nat.le_of_ble_eq_true rfl) dX10_goesBy_1 ?_
    refine z_aload_n S dX10_goesBy_4 rfl 0 rfl ?_
    refine z_iload_n S dX10_goesBy_5 rfl 1 rfl ?_
    obtain ⟨M2, h9, he⟩ := bnd he
    refine z_cVV (As := [.int a1]) S cv_RX10_275 (K_X10_leads  h9) ok_109 (by decide) (q := (RX10, TX10, 28)) rfl rfl ⟨rfl, rfl⟩ ⟨Nat.le_of_ble_eq_true rfl, Nat.le_of_ble_eq_true rfl⟩ ⟨Nat.le_refl _, Nat.le_refl _⟩ rfl rfl (Nat.le_of_ble_eq_true rfl) dX10_goesBy_6 ?_
    refine z_iconst (v := 0) S dX10_goesBy_9 (by decide) ?_
    refine z_istore_n (lv' := [(0, .ref (X.2.2 109)), (2, .int 0)]) S [1, 0] dX10_goesBy_10 rfl (by decide) rfl ?_
    refine z_iconst (v := 0) S dX10_goesBy_11 (by decide) ?_
    refine z_istore_n (lv' := [(0, .ref (X.2.2 109)), (2, .int 0), (3, .int 0)]) S [1, 2, 0] dX10_goesBy_12 rfl (by decide) rfl ?_
    obtain ⟨e_11, hl, he⟩ := bnd he
    have hX : Z X 1 p l e rm_X10_goesBy s m args below meth c 0 0 (MQ below (QI X 1 r N s.heap.size) args s 0 0 (AA X 1 s.heap.size)) 5 e_11.1 176 [(0, .ref (X.2.2 109)), (2, .int e_11.2)] [] := by
      refine z_iconst (v := 0) S dX10_goesBy_176 (by decide) ?_
      refine z_istore_n (lv' := [(0, .ref (X.2.2 109)), (2, .int e_11.2), (3, .int 0)]) S [1, 2, 0] dX10_goesBy_177 rfl (by decide) rfl ?_
      obtain ⟨e_15, hl, he⟩ := bnd he
      have hX : Z X 1 p l e rm_X10_goesBy s m args below meth c 0 0 (MQ below (QI X 1 r N s.heap.size) args s 0 0 (AA X 1 s.heap.size)) 5 e_15 243 [(0, .ref (X.2.2 109)), (2, .int e_11.2)] [] := by
        refine z_aload_n S dX10_goesBy_243 rfl 0 rfl ?_
        refine z_getF (j := 110) S fo_RX10_7 1 rfl rfl ok_109 dX10_goesBy_244 ?_
        refine z_bipush (v := 7) S dX10_goesBy_247 (by decide) ?_
        refine z_dup2 S dX10_goesBy_249 rfl rfl ?_
        refine z_iald S ok_110 rfl he dX10_goesBy_250 (fun he => ?_)
        refine z_iload_n S dX10_goesBy_251 rfl 1 rfl ?_
        refine z_iadd S dX10_goesBy_252 ?_
        refine z_iastb S ok_110 rfl he dX10_goesBy_253 (fun M16 he => ?_)
        refine z_aload_n S dX10_goesBy_254 rfl 0 rfl ?_
        refine z_getF (j := 110) S fo_RX10_7 1 rfl rfl ok_109 dX10_goesBy_255 ?_
        refine z_bipush (v := 6) S dX10_goesBy_258 (by decide) ?_
        refine z_dup2 S dX10_goesBy_260 rfl rfl ?_
        refine z_iald S ok_110 rfl he dX10_goesBy_261 (fun he => ?_)
        refine z_iconst (v := 1) S dX10_goesBy_262 (by decide) ?_
        refine z_iadd S dX10_goesBy_263 ?_
        refine z_iastb S ok_110 rfl he dX10_goesBy_264 (fun M17 he => ?_)
        refine z_iload_n S dX10_goesBy_265 rfl 1 rfl ?_
        exact z_iret S (Prod.mk.inj (Option.some.inj he)) dX10_goesBy_266
      have hZ9 := loopZ (f := (fun a_15 => f_X10_goesBy_L178 a_15.1 e_11.2 a_15.2)) (Zh := (fun a_15 => Z X 1 p l e rm_X10_goesBy s m args below meth c 0 0 (MQ below (QI X 1 r N s.heap.size) args s 0 0 (AA X 1 s.heap.size)) 5 a_15.1 178 [(0, .ref (X.2.2 109)), (2, .int e_11.2), (3, .int a_15.2)] [])) (fun a_15 x hb hc hr => p_X10_goesBy_L178 S  hb hc (fun b hxe => by rw [hr b hxe]; exact hX)) FU (e_11.1, 0) hl
      exact hZ9
    have hZ9 := loopZ (f := (fun a_11 => f_X10_goesBy_L13 a_11.1 a_11.2.1 a_11.2.2)) (Zh := (fun a_11 => Z X 1 p l e rm_X10_goesBy s m args below meth c 0 0 (MQ below (QI X 1 r N s.heap.size) args s 0 0 (AA X 1 s.heap.size)) 5 a_11.1 13 [(0, .ref (X.2.2 109)), (2, .int a_11.2.1), (3, .int a_11.2.2)] [])) (fun a_11 x hb hc hr => p_X10_goesBy_L13 S  hb hc (fun b hxe => by rw [hr b hxe]; exact hX)) FU (M2, 0, 0) hl
    exact hZ9
set_option maxRecDepth 100000 in
set_option maxHeartbeats 4000000 in
theorem p_X10_hadBy_L4 {X : Cx} {p : Program} {l : Launch} {e : Env} {s : State} {m : MethodId} {args : Array Value} {below : List Frame} {meth : Method} {c : Code} (S : SB X 1 p s m args meth c cX10_hadBy 4 (some .int) RX10) {M : Mm} {r : Int32} {v1 : Int32} {v2 : Int32} {v3 : Int32} {x : (Int32 × Int32) ⊕ Int32}  (he : f_X10_hadBy_L4 M v1 v2 v3 = some x) (hc : ∀ b, x = .inl b → Z X 1 p l e rm_X10_hadBy s m args below meth c 0 0 (MQ below (QI X 1 r M s.heap.size) args s 0 0 (AA X 1 s.heap.size)) 4 M 4 [(0, .ref (X.2.2 109)), (1, .int v1), (2, .int b.1), (3, .int b.2)] []) (hx : ∀ b, x = .inr b → Z X 1 p l e rm_X10_hadBy s m args below meth c 0 0 (MQ below (QI X 1 r M s.heap.size) args s 0 0 (AA X 1 s.heap.size)) 4 M 40 [(2, .int b)] []) : Z X 1 p l e rm_X10_hadBy s m args below meth c 0 0 (MQ below (QI X 1 r M s.heap.size) args s 0 0 (AA X 1 s.heap.size)) 4 M 4 [(0, .ref (X.2.2 109)), (1, .int v1), (2, .int v2), (3, .int v3)] [] := by
  unfold f_X10_hadBy_L4 at he
  refine z_iload_n S dX10_hadBy_4 rfl 3 rfl ?_
  refine z_aload_n S dX10_hadBy_5 rfl 0 rfl ?_
  refine z_getF (j := 110) S fo_RX10_7 1 rfl rfl ok_109 dX10_hadBy_6 ?_
  refine z_iconst (v := 4) S dX10_hadBy_9 (by decide) ?_
  refine z_iald S ok_110 rfl he dX10_hadBy_10 (fun he => ?_)
  refine z_icmp_ge (tgt := 40) S he dX10_hadBy_11 (by decide) (fun he => ?_) (fun he => ?_)
  · refine z_lv (ks := [2]) rfl ?_
    exact hx _ (Option.some.inj he).symm
  · refine z_iload_n S dX10_hadBy_14 rfl 2 rfl ?_
    refine z_aload_n S dX10_hadBy_15 rfl 0 rfl ?_
    refine z_getF (j := 117) S fo_RX10_35 8 rfl rfl ok_109 dX10_hadBy_16 ?_
    refine z_iload_n S dX10_hadBy_19 rfl 3 rfl ?_
    refine z_iald S ok_117 rfl he dX10_hadBy_20 (fun he => ?_)
    refine z_iload_n S dX10_hadBy_21 rfl 1 rfl ?_
    refine z_icmp_ne (tgt := 31) S he dX10_hadBy_22 (by decide) (fun he => ?_) (fun he => ?_)
    · refine z_iconst (v := 0) S dX10_hadBy_31 (by decide) ?_
      refine z_ior S dX10_hadBy_32 ?_
      refine z_istore_n (lv' := [(0, .ref (X.2.2 109)), (1, .int v1), (2, .int (v2 ||| 0)), (3, .int v3)]) S [1, 2, 0, 3] dX10_hadBy_33 rfl (by decide) rfl ?_
      refine z_iinc (v := (v3 + 1)) (lv' := [(0, .ref (X.2.2 109)), (1, .int v1), (2, .int (v2 ||| 0)), (3, .int (v3 + 1))]) S [1, 2, 3, 0] 3 dX10_hadBy_34 rfl (by rfl) (by decide) rfl ?_
      refine z_goto (tgt := 4) S dX10_hadBy_37 (by decide) ?_
      refine z_lv (ks := [0, 1, 2, 3]) rfl ?_
      exact hc _ (Option.some.inj he).symm
    · refine z_iconst (v := 1) S dX10_hadBy_25 (by decide) ?_
      refine z_iload_n S dX10_hadBy_26 rfl 3 rfl ?_
      refine z_ishl S dX10_hadBy_27 ?_
      refine z_goto (tgt := 32) S dX10_hadBy_28 (by decide) ?_
      refine z_ior S dX10_hadBy_32 ?_
      obtain ⟨x1, ex1, he⟩ := bnd he
      rw [Option.some.inj ex1]
      refine z_istore_n (lv' := [(0, .ref (X.2.2 109)), (1, .int v1), (2, .int x1), (3, .int v3)]) S [1, 2, 0, 3] dX10_hadBy_33 rfl (by decide) rfl ?_
      refine z_iinc (v := (v3 + 1)) (lv' := [(0, .ref (X.2.2 109)), (1, .int v1), (2, .int x1), (3, .int (v3 + 1))]) S [1, 2, 3, 0] 3 dX10_hadBy_34 rfl (by rfl) (by decide) rfl ?_
      refine z_goto (tgt := 4) S dX10_hadBy_37 (by decide) ?_
      refine z_lv (ks := [0, 1, 2, 3]) rfl ?_
      exact hc _ (Option.some.inj he).symm
set_option maxRecDepth 100000 in
set_option maxHeartbeats 4000000 in
theorem K_X10_hadBy {X : Cx} {l : Launch} {M : Mm} {a1 : Int32} {r : Int32}  (he : f_X10_hadBy M a1 = some r) : KI X 1 l yX10_hadBy (wz yX10_hadBy cX10_hadBy 4 (some .int)) rm_X10_hadBy [.ref (X.2.2 109), .int a1] M r M := by
  intro sz
  refine K_of (Qc := (fun sz => QI X 1 r M sz)) (own := RX10) (lv0 := [(0, .ref (X.2.2 109)), (1, .int a1)]) (by decide +kernel) rfl (Nat.le_of_ble_eq_true rfl) rfl (fun p e s m args below meth c S => ?_) sz
  · unfold f_X10_hadBy at he
    refine z_iconst (v := 0) S dX10_hadBy_0 (by decide) ?_
    refine z_istore_n (lv' := [(0, .ref (X.2.2 109)), (1, .int a1), (2, .int 0)]) S [1, 2, 0] dX10_hadBy_1 rfl (by decide) rfl ?_
    refine z_iconst (v := 0) S dX10_hadBy_2 (by decide) ?_
    refine z_istore_n (lv' := [(0, .ref (X.2.2 109)), (1, .int a1), (2, .int 0), (3, .int 0)]) S [1, 2, 3, 0] dX10_hadBy_3 rfl (by decide) rfl ?_
    obtain ⟨e_2, hl, he⟩ := bnd he
    have hX : Z X 1 p l e rm_X10_hadBy s m args below meth c 0 0 (MQ below (QI X 1 r M s.heap.size) args s 0 0 (AA X 1 s.heap.size)) 4 M 40 [(2, .int e_2)] [] := by
      refine z_iload_n S dX10_hadBy_40 rfl 0 rfl ?_
      exact z_iret S (⟨Option.some.inj he, rfl⟩) dX10_hadBy_41
    have hZ9 := loopZ (f := (fun a_2 => f_X10_hadBy_L4 M a1 a_2.1 a_2.2)) (Zh := (fun a_2 => Z X 1 p l e rm_X10_hadBy s m args below meth c 0 0 (MQ below (QI X 1 r M s.heap.size) args s 0 0 (AA X 1 s.heap.size)) 4 M 4 [(0, .ref (X.2.2 109)), (1, .int a1), (2, .int a_2.1), (3, .int a_2.2)] [])) (fun a_2 x hb hc hr => p_X10_hadBy_L4 S  hb hc (fun b hxe => by rw [hr b hxe]; exact hX)) FU (0, 0) hl
    exact hZ9
set_option maxRecDepth 100000 in
set_option maxHeartbeats 4000000 in
theorem p_X10_comesBack_L2 {X : Cx} {p : Program} {l : Launch} {e : Env} {s : State} {m : MethodId} {args : Array Value} {below : List Frame} {meth : Method} {c : Code} (S : SB X 1 p s m args meth c cX10_comesBack 2 none RX10) {M : Mm} {N : Mm} {v1 : Int32} {x : (Mm × Int32) ⊕ Mm}  (he : f_X10_comesBack_L2 M v1 = some x) (hc : ∀ b, x = .inl b → Z X 1 p l e rm_X10_comesBack s m args below meth c 0 0 (MQ below (QV X 1 N s.heap.size) args s 0 0 (AA X 1 s.heap.size)) 2 b.1 2 [(0, .ref (X.2.2 109)), (1, .int b.2)] []) (hx : ∀ b, x = .inr b → Z X 1 p l e rm_X10_comesBack s m args below meth c 0 0 (MQ below (QV X 1 N s.heap.size) args s 0 0 (AA X 1 s.heap.size)) 2 b 27 [] []) : Z X 1 p l e rm_X10_comesBack s m args below meth c 0 0 (MQ below (QV X 1 N s.heap.size) args s 0 0 (AA X 1 s.heap.size)) 2 M 2 [(0, .ref (X.2.2 109)), (1, .int v1)] [] := by
  unfold f_X10_comesBack_L2 at he
  refine z_iload_n S dX10_comesBack_2 rfl 1 rfl ?_
  refine z_sipush (v := 407) S dX10_comesBack_3 (by decide) ?_
  refine z_icmp_ge (tgt := 27) S he dX10_comesBack_6 (by decide) (fun he => ?_) (fun he => ?_)
  · refine z_lv (ks := []) rfl ?_
    exact hx _ (Option.some.inj he).symm
  · refine z_aload_n S dX10_comesBack_9 rfl 0 rfl ?_
    refine z_getF (j := 110) S fo_RX10_7 1 rfl rfl ok_109 dX10_comesBack_10 ?_
    refine z_iload_n S dX10_comesBack_13 rfl 1 rfl ?_
    refine z_aload_n S dX10_comesBack_14 rfl 0 rfl ?_
    refine z_getF (j := 112) S fo_RX10_16 3 rfl rfl ok_109 dX10_comesBack_15 ?_
    refine z_iload_n S dX10_comesBack_18 rfl 1 rfl ?_
    refine z_iald S ok_112 rfl he dX10_comesBack_19 (fun he => ?_)
    refine z_iastb S ok_110 rfl he dX10_comesBack_20 (fun M1 he => ?_)
    refine z_iinc (v := (v1 + 1)) (lv' := [(0, .ref (X.2.2 109)), (1, .int (v1 + 1))]) S [1, 0] 1 dX10_comesBack_21 rfl (by rfl) (by decide) rfl ?_
    refine z_goto (tgt := 2) S dX10_comesBack_24 (by decide) ?_
    refine z_lv (ks := [0, 1]) rfl ?_
    exact hc _ (Option.some.inj he).symm
set_option maxRecDepth 100000 in
set_option maxHeartbeats 4000000 in
theorem K_X10_comesBack {X : Cx} {l : Launch} {M : Mm} {N : Mm}  (he : f_X10_comesBack M  = some N) : KV X 1 l yX10_comesBack (wz yX10_comesBack cX10_comesBack 2 none) rm_X10_comesBack [.ref (X.2.2 109)] M N := by
  intro sz
  refine K_of (Qc := (fun sz => QV X 1 N sz)) (own := RX10) (lv0 := [(0, .ref (X.2.2 109))]) (by decide +kernel) rfl (Nat.le_of_ble_eq_true rfl) rfl (fun p e s m args below meth c S => ?_) sz
  · unfold f_X10_comesBack at he
    refine z_iconst (v := 0) S dX10_comesBack_0 (by decide) ?_
    refine z_istore_n (lv' := [(0, .ref (X.2.2 109)), (1, .int 0)]) S [1, 0] dX10_comesBack_1 rfl (by decide) rfl ?_
    obtain ⟨e_2, hl, he⟩ := bnd he
    have hX : Z X 1 p l e rm_X10_comesBack s m args below meth c 0 0 (MQ below (QV X 1 N s.heap.size) args s 0 0 (AA X 1 s.heap.size)) 2 e_2 27 [] [] := by
      exact z_vret S (Option.some.inj he) dX10_comesBack_27
    have hZ9 := loopZ (f := (fun a_2 => f_X10_comesBack_L2 a_2.1 a_2.2)) (Zh := (fun a_2 => Z X 1 p l e rm_X10_comesBack s m args below meth c 0 0 (MQ below (QV X 1 N s.heap.size) args s 0 0 (AA X 1 s.heap.size)) 2 a_2.1 2 [(0, .ref (X.2.2 109)), (1, .int a_2.2)] [])) (fun a_2 x hb hc hr => p_X10_comesBack_L2 S  hb hc (fun b hxe => by rw [hr b hxe]; exact hX)) FU (M, 0) hl
    exact hZ9
set_option maxRecDepth 100000 in
set_option maxHeartbeats 4000000 in
theorem p_X10_ahead_L60 {X : Cx} {p : Program} {l : Launch} {e : Env} {s : State} {m : MethodId} {args : Array Value} {below : List Frame} {meth : Method} {c : Code} (S : SB X 1 p s m args meth c cX10_ahead 6 (some .int) RX10) {M : Mm} {N : Mm} {r : Int32} {v1 : Int32} {v2 : Int32} {v3 : Int32} {v4 : Int32} {x : (Mm × Int32) ⊕ Mm}  (he : f_X10_ahead_L60 M v1 v2 v3 v4 = some x) (hc : ∀ b, x = .inl b → Z X 1 p l e rm_X10_ahead s m args below meth c 0 0 (MQ below (QI X 1 r N s.heap.size) args s 0 0 (AA X 1 s.heap.size)) 6 b.1 60 [(0, .ref (X.2.2 109)), (1, .int v1), (2, .int v2), (3, .int v3), (4, .int b.2)] []) (hx : ∀ b, x = .inr b → Z X 1 p l e rm_X10_ahead s m args below meth c 0 0 (MQ below (QI X 1 r N s.heap.size) args s 0 0 (AA X 1 s.heap.size)) 6 b 79 [(0, .ref (X.2.2 109)), (1, .int v1), (2, .int v2), (3, .int v3)] []) : Z X 1 p l e rm_X10_ahead s m args below meth c 0 0 (MQ below (QI X 1 r N s.heap.size) args s 0 0 (AA X 1 s.heap.size)) 6 M 60 [(0, .ref (X.2.2 109)), (1, .int v1), (2, .int v2), (3, .int v3), (4, .int v4)] [] := by
  unfold f_X10_ahead_L60 at he
  refine z_iload S dX10_ahead_60 4 rfl ?_
  refine z_iload_n S dX10_ahead_62 rfl 2 rfl ?_
  refine z_icmp_ge (tgt := 79) S he dX10_ahead_63 (by decide) (fun he => ?_) (fun he => ?_)
  · refine z_lv (ks := [0, 1, 2, 3]) rfl ?_
    exact hx _ (Option.some.inj he).symm
  · refine z_aload_n S dX10_ahead_66 rfl 0 rfl ?_
    refine z_iconst (v := 0) S dX10_ahead_67 (by decide) ?_
    obtain ⟨⟨r4, M5⟩, h9, he⟩ := bnd he
    dsimp only at he
    refine z_cVI (As := [.int 0]) S cv_RX10_282 (K_X10_goesBy  h9) ok_109 (by decide) (q := (RX10, TX10, 28)) rfl rfl ⟨rfl, rfl⟩ ⟨Nat.le_of_ble_eq_true rfl, Nat.le_of_ble_eq_true rfl⟩ ⟨Nat.le_refl _, Nat.le_refl _⟩ rfl rfl (Nat.le_of_ble_eq_true rfl) dX10_ahead_68 ?_
    refine z_istore (lv' := [(0, .ref (X.2.2 109)), (1, .int v1), (2, .int v2), (3, .int v3), (4, .int v4)]) S [1, 2, 3, 4, 5] dX10_ahead_71 (by decide) rfl ?_
    refine z_iinc (v := (v4 + 1)) (lv' := [(0, .ref (X.2.2 109)), (1, .int v1), (2, .int v2), (3, .int v3), (4, .int (v4 + 1))]) S [1, 2, 3, 4, 0] 4 dX10_ahead_73 rfl (by rfl) (by decide) rfl ?_
    refine z_goto (tgt := 60) S dX10_ahead_76 (by decide) ?_
    refine z_lv (ks := [0, 1, 2, 3, 4]) rfl ?_
    exact hc _ (Option.some.inj he).symm
set_option maxRecDepth 100000 in
set_option maxHeartbeats 4000000 in
theorem p_X10_ahead_J105 {X : Cx} {p : Program} {l : Launch} {e : Env} {s : State} {m : MethodId} {args : Array Value} {below : List Frame} {meth : Method} {c : Code} (S : SB X 1 p s m args meth c cX10_ahead 6 (some .int) RX10) {M : Mm} {N : Mm} {r : Int32} {t0 : Int32}  (he : f_X10_ahead_J105 M t0 = some (r, N)) : Z X 1 p l e rm_X10_ahead s m args below meth c 0 0 (MQ below (QI X 1 r N s.heap.size) args s 0 0 (AA X 1 s.heap.size)) 6 M 105 [(0, .ref (X.2.2 109))] [.int t0] := by
  unfold f_X10_ahead_J105 at he
  refine z_istore (lv' := [(0, .ref (X.2.2 109)), (4, .int t0)]) S [1, 0] dX10_ahead_105 (by decide) rfl ?_
  refine z_aload_n S dX10_ahead_107 rfl 0 rfl ?_
  obtain ⟨M8, h9, he⟩ := bnd he
  refine z_cVV (As := []) S cv_RX10_181 (K_X10_comesBack  h9) ok_109 (by decide) (q := (RX10, TX10, 28)) rfl rfl ⟨rfl, rfl⟩ ⟨Nat.le_of_ble_eq_true rfl, Nat.le_of_ble_eq_true rfl⟩ ⟨Nat.le_refl _, Nat.le_refl _⟩ rfl rfl (Nat.le_of_ble_eq_true rfl) dX10_ahead_108 ?_
  refine z_iload S dX10_ahead_111 1 rfl ?_
  exact z_iret S (Prod.mk.inj (Option.some.inj he)) dX10_ahead_113
set_option maxRecDepth 100000 in
set_option maxHeartbeats 4000000 in
theorem p_X10_ahead_J41 {X : Cx} {p : Program} {l : Launch} {e : Env} {s : State} {m : MethodId} {args : Array Value} {below : List Frame} {meth : Method} {c : Code} (S : SB X 1 p s m args meth c cX10_ahead 6 (some .int) RX10) {M : Mm} {N : Mm} {r : Int32} {v1 : Int32} {v2 : Int32} {v3 : Int32} {t0 : Int32}  (he : f_X10_ahead_J41 M v1 v2 v3 t0 = some (r, N)) : Z X 1 p l e rm_X10_ahead s m args below meth c 0 0 (MQ below (QI X 1 r N s.heap.size) args s 0 0 (AA X 1 s.heap.size)) 6 M 41 [(0, .ref (X.2.2 109)), (1, .int v1), (2, .int v2), (3, .int v3)] [.int t0, .ref (X.2.2 109)] := by
  unfold f_X10_ahead_J41 at he
  refine z_putIb S fo_RX10_63p rfl ok_109 rfl rfl he dX10_ahead_41 (fun M2 he => ?_)
  refine z_aload_n S dX10_ahead_44 rfl 0 rfl ?_
  refine z_getI S fo_RX10_63 rfl ok_109 dX10_ahead_45 ?_
  refine z_if_le (tgt := 53) S he dX10_ahead_48 (by decide) (fun he => ?_) (fun he => ?_)
  · refine z_aload_n S dX10_ahead_53 rfl 0 rfl ?_
    obtain ⟨M3, h9, he⟩ := bnd he
    refine z_cVV (As := []) S cv_RX10_171 (K_X10_putsAside  h9) ok_109 (by decide) (q := (RX10, TX10, 28)) rfl rfl ⟨rfl, rfl⟩ ⟨Nat.le_of_ble_eq_true rfl, Nat.le_of_ble_eq_true rfl⟩ ⟨Nat.le_refl _, Nat.le_refl _⟩ rfl rfl (Nat.le_of_ble_eq_true rfl) dX10_ahead_54 ?_
    refine z_iconst (v := 0) S dX10_ahead_57 (by decide) ?_
    refine z_istore (lv' := [(0, .ref (X.2.2 109)), (1, .int v1), (2, .int v2), (3, .int v3), (4, .int 0)]) S [1, 2, 3, 4, 0] dX10_ahead_58 (by decide) rfl ?_
    obtain ⟨e_6, hl, he⟩ := bnd he
    have hX : Z X 1 p l e rm_X10_ahead s m args below meth c 0 0 (MQ below (QI X 1 r N s.heap.size) args s 0 0 (AA X 1 s.heap.size)) 6 e_6 79 [(0, .ref (X.2.2 109)), (1, .int v1), (2, .int v2), (3, .int v3)] [] := by
      refine z_iload_n S dX10_ahead_79 rfl 3 rfl ?_
      refine z_if_ne (tgt := 92) S he dX10_ahead_80 (by decide) (fun he => ?_) (fun he => ?_)
      · refine z_iload_n S dX10_ahead_92 rfl 2 rfl ?_
        refine z_if_ne (tgt := 100) S he dX10_ahead_93 (by decide) (fun he => ?_) (fun he => ?_)
        · refine z_aload_n S dX10_ahead_100 rfl 0 rfl ?_
          refine z_iload_n S dX10_ahead_101 rfl 1 rfl ?_
          obtain ⟨r7, h9, he⟩ := bnd he
          refine z_cVI (As := [.int v1]) S cv_RX10_294 (K_X10_hadBy  h9) ok_109 (by decide) (q := (RX10, TX10, 28)) rfl rfl ⟨rfl, rfl⟩ ⟨Nat.le_of_ble_eq_true rfl, Nat.le_of_ble_eq_true rfl⟩ ⟨Nat.le_refl _, Nat.le_refl _⟩ rfl rfl (Nat.le_of_ble_eq_true rfl) dX10_ahead_102 ?_
          refine z_lv (ks := [0]) rfl ?_
          exact p_X10_ahead_J105 S  he
        · refine z_iconst (v := 0) S dX10_ahead_96 (by decide) ?_
          refine z_goto (tgt := 105) S dX10_ahead_97 (by decide) ?_
          refine z_lv (ks := [0]) rfl ?_
          exact p_X10_ahead_J105 S  he
      · refine z_aload_n S dX10_ahead_83 rfl 0 rfl ?_
        refine z_iload_n S dX10_ahead_84 rfl 1 rfl ?_
        refine z_iconst (v := 4) S dX10_ahead_85 (by decide) ?_
        obtain ⟨r9, h9, he⟩ := bnd he
        refine z_cVI (As := [.int v1, .int 4]) S cv_RX10_70 (K_X10_of  h9) ok_109 (by decide) (q := (RX10, TX10, 28)) rfl rfl ⟨rfl, rfl⟩ ⟨Nat.le_of_ble_eq_true rfl, Nat.le_of_ble_eq_true rfl⟩ ⟨Nat.le_refl _, Nat.le_refl _⟩ rfl rfl (Nat.le_of_ble_eq_true rfl) dX10_ahead_86 ?_
        refine z_goto (tgt := 105) S dX10_ahead_89 (by decide) ?_
        refine z_lv (ks := [0]) rfl ?_
        exact p_X10_ahead_J105 S  he
    have hZ9 := loopZ (f := (fun a_6 => f_X10_ahead_L60 a_6.1 v1 v2 v3 a_6.2)) (Zh := (fun a_6 => Z X 1 p l e rm_X10_ahead s m args below meth c 0 0 (MQ below (QI X 1 r N s.heap.size) args s 0 0 (AA X 1 s.heap.size)) 6 a_6.1 60 [(0, .ref (X.2.2 109)), (1, .int v1), (2, .int v2), (3, .int v3), (4, .int a_6.2)] [])) (fun a_6 x hb hc hr => p_X10_ahead_L60 S  hb hc (fun b hxe => by rw [hr b hxe]; exact hX)) FU (M3, 0) hl
    exact hZ9
  · refine z_iconst (v := 0) S dX10_ahead_51 (by decide) ?_
    exact z_iret S (Prod.mk.inj (Option.some.inj he)) dX10_ahead_52
set_option maxRecDepth 100000 in
set_option maxHeartbeats 4000000 in
theorem K_X10_ahead {X : Cx} {l : Launch} {M : Mm} {a1 : Int32} {a2 : Int32} {a3 : Int32} {r : Int32} {N : Mm}  (he : f_X10_ahead M a1 a2 a3 = some (r, N)) : KI X 1 l yX10_ahead (wz yX10_ahead cX10_ahead 6 (some .int)) rm_X10_ahead [.ref (X.2.2 109), .int a1, .int a2, .int a3] M r N := by
  intro sz
  refine K_of (Qc := (fun sz => QI X 1 r N sz)) (own := RX10) (lv0 := [(0, .ref (X.2.2 109)), (1, .int a1), (2, .int a2), (3, .int a3)]) (by decide +kernel) rfl (Nat.le_of_ble_eq_true rfl) rfl (fun p e s m args below meth c S => ?_) sz
  · unfold f_X10_ahead at he
    refine z_aload_n S dX10_ahead_0 rfl 0 rfl ?_
    refine z_aload_n S dX10_ahead_1 rfl 0 rfl ?_
    refine z_iload_n S dX10_ahead_2 rfl 1 rfl ?_
    obtain ⟨r1, h9, he⟩ := bnd he
    refine z_cVI (As := [.int a1]) S cv_RX10_285 (K_X10_isThing  h9) ok_109 (by decide) (q := (RX10, TX10, 28)) rfl rfl ⟨rfl, rfl⟩ ⟨Nat.le_of_ble_eq_true rfl, Nat.le_of_ble_eq_true rfl⟩ ⟨Nat.le_refl _, Nat.le_refl _⟩ rfl rfl (Nat.le_of_ble_eq_true rfl) dX10_ahead_3 ?_
    refine z_ifb_ne (tgt := 13) S he dX10_ahead_6 (by decide) (fun he => ?_) (fun he => ?_)
    · refine z_iload_n S dX10_ahead_13 rfl 2 rfl ?_
      refine z_iconst (v := 0) S dX10_ahead_14 (by decide) ?_
      refine z_bipush (v := 30) S dX10_ahead_15 (by decide) ?_
      refine z_cSI (As := [.int a2, .int 0, .int 30]) S cs_RX10_66 (K_X10_isIn  rfl) ⟨rfl, rfl⟩ ⟨Nat.le_of_ble_eq_true rfl, Nat.le_of_ble_eq_true rfl⟩ ⟨Nat.le_refl _, Nat.le_refl _⟩ rfl rfl (Nat.le_of_ble_eq_true rfl) dX10_ahead_17 ?_
      refine z_ifb_ne (tgt := 27) S he dX10_ahead_20 (by decide) (fun he => ?_) (fun he => ?_)
      · refine z_iload_n S dX10_ahead_27 rfl 3 rfl ?_
        refine z_iconst (v := 0) S dX10_ahead_28 (by decide) ?_
        refine z_iconst (v := 1) S dX10_ahead_29 (by decide) ?_
        refine z_cSI (As := [.int a3, .int 0, .int 1]) S cs_RX10_66 (K_X10_isIn  rfl) ⟨rfl, rfl⟩ ⟨Nat.le_of_ble_eq_true rfl, Nat.le_of_ble_eq_true rfl⟩ ⟨Nat.le_refl _, Nat.le_refl _⟩ rfl rfl (Nat.le_of_ble_eq_true rfl) dX10_ahead_30 ?_
        refine z_ifb_ne (tgt := 40) S he dX10_ahead_33 (by decide) (fun he => ?_) (fun he => ?_)
        · refine z_iconst (v := 0) S dX10_ahead_40 (by decide) ?_
          exact p_X10_ahead_J41 S  he
        · refine z_iconst (v := 3) S dX10_ahead_36 (by decide) ?_
          refine z_goto (tgt := 41) S dX10_ahead_37 (by decide) ?_
          exact p_X10_ahead_J41 S  he
      · refine z_iconst (v := 2) S dX10_ahead_23 (by decide) ?_
        refine z_goto (tgt := 41) S dX10_ahead_24 (by decide) ?_
        exact p_X10_ahead_J41 S  he
    · refine z_iconst (v := 1) S dX10_ahead_9 (by decide) ?_
      refine z_goto (tgt := 41) S dX10_ahead_10 (by decide) ?_
      exact p_X10_ahead_J41 S  he
set_option maxRecDepth 100000 in
set_option maxHeartbeats 4000000 in
theorem p_X10_ringsFor_L4 {X : Cx} {p : Program} {l : Launch} {e : Env} {s : State} {m : MethodId} {args : Array Value} {below : List Frame} {meth : Method} {c : Code} (S : SB X 1 p s m args meth c cX10_ringsFor 4 (some .int) RX10) {M : Mm} {r : Int32} {v1 : Int32} {v2 : Int32} {v3 : Int32} {x : (Int32 × Int32) ⊕ Int32}  (he : f_X10_ringsFor_L4 M v1 v2 v3 = some x) (hc : ∀ b, x = .inl b → Z X 1 p l e rm_X10_ringsFor s m args below meth c 0 0 (MQ below (QI X 1 r M s.heap.size) args s 0 0 (AA X 1 s.heap.size)) 4 M 4 [(0, .ref (X.2.2 109)), (1, .int v1), (2, .int b.1), (3, .int b.2)] []) (hx : ∀ b, x = .inr b → Z X 1 p l e rm_X10_ringsFor s m args below meth c 0 0 (MQ below (QI X 1 r M s.heap.size) args s 0 0 (AA X 1 s.heap.size)) 4 M 39 [(2, .int b)] []) : Z X 1 p l e rm_X10_ringsFor s m args below meth c 0 0 (MQ below (QI X 1 r M s.heap.size) args s 0 0 (AA X 1 s.heap.size)) 4 M 4 [(0, .ref (X.2.2 109)), (1, .int v1), (2, .int v2), (3, .int v3)] [] := by
  unfold f_X10_ringsFor_L4 at he
  refine z_iload_n S dX10_ringsFor_4 rfl 3 rfl ?_
  refine z_aload_n S dX10_ringsFor_5 rfl 0 rfl ?_
  refine z_getF (j := 110) S fo_RX10_7 1 rfl rfl ok_109 dX10_ringsFor_6 ?_
  refine z_iconst (v := 4) S dX10_ringsFor_9 (by decide) ?_
  refine z_iald S ok_110 rfl he dX10_ringsFor_10 (fun he => ?_)
  refine z_icmp_ge (tgt := 39) S he dX10_ringsFor_11 (by decide) (fun he => ?_) (fun he => ?_)
  · refine z_lv (ks := [2]) rfl ?_
    exact hx _ (Option.some.inj he).symm
  · refine z_iload_n S dX10_ringsFor_14 rfl 2 rfl ?_
    refine z_aload_n S dX10_ringsFor_15 rfl 0 rfl ?_
    refine z_iload_n S dX10_ringsFor_16 rfl 1 rfl ?_
    refine z_iload_n S dX10_ringsFor_17 rfl 3 rfl ?_
    obtain ⟨r1, h9, he⟩ := bnd he
    refine z_cVI (As := [.int v1, .int v3]) S cv_RX10_259 (K_X10_canHave  h9) ok_109 (by decide) (q := (RX10, TX10, 28)) rfl rfl ⟨rfl, rfl⟩ ⟨Nat.le_of_ble_eq_true rfl, Nat.le_of_ble_eq_true rfl⟩ ⟨Nat.le_refl _, Nat.le_refl _⟩ rfl rfl (Nat.le_of_ble_eq_true rfl) dX10_ringsFor_18 ?_
    refine z_ifb_eq (tgt := 30) S he dX10_ringsFor_21 (by decide) (fun he => ?_) (fun he => ?_)
    · refine z_iconst (v := 0) S dX10_ringsFor_30 (by decide) ?_
      refine z_ior S dX10_ringsFor_31 ?_
      refine z_istore_n (lv' := [(0, .ref (X.2.2 109)), (1, .int v1), (2, .int (v2 ||| 0)), (3, .int v3)]) S [1, 2, 0, 3] dX10_ringsFor_32 rfl (by decide) rfl ?_
      refine z_iinc (v := (v3 + 1)) (lv' := [(0, .ref (X.2.2 109)), (1, .int v1), (2, .int (v2 ||| 0)), (3, .int (v3 + 1))]) S [1, 2, 3, 0] 3 dX10_ringsFor_33 rfl (by rfl) (by decide) rfl ?_
      refine z_goto (tgt := 4) S dX10_ringsFor_36 (by decide) ?_
      refine z_lv (ks := [0, 1, 2, 3]) rfl ?_
      exact hc _ (Option.some.inj he).symm
    · refine z_iconst (v := 1) S dX10_ringsFor_24 (by decide) ?_
      refine z_iload_n S dX10_ringsFor_25 rfl 3 rfl ?_
      refine z_ishl S dX10_ringsFor_26 ?_
      refine z_goto (tgt := 31) S dX10_ringsFor_27 (by decide) ?_
      refine z_ior S dX10_ringsFor_31 ?_
      obtain ⟨x2, ex2, he⟩ := bnd he
      rw [Option.some.inj ex2]
      refine z_istore_n (lv' := [(0, .ref (X.2.2 109)), (1, .int v1), (2, .int x2), (3, .int v3)]) S [1, 2, 0, 3] dX10_ringsFor_32 rfl (by decide) rfl ?_
      refine z_iinc (v := (v3 + 1)) (lv' := [(0, .ref (X.2.2 109)), (1, .int v1), (2, .int x2), (3, .int (v3 + 1))]) S [1, 2, 3, 0] 3 dX10_ringsFor_33 rfl (by rfl) (by decide) rfl ?_
      refine z_goto (tgt := 4) S dX10_ringsFor_36 (by decide) ?_
      refine z_lv (ks := [0, 1, 2, 3]) rfl ?_
      exact hc _ (Option.some.inj he).symm
set_option maxRecDepth 100000 in
set_option maxHeartbeats 4000000 in
theorem K_X10_ringsFor {X : Cx} {l : Launch} {M : Mm} {a1 : Int32} {r : Int32}  (he : f_X10_ringsFor M a1 = some r) : KI X 1 l yX10_ringsFor (wz yX10_ringsFor cX10_ringsFor 4 (some .int)) rm_X10_ringsFor [.ref (X.2.2 109), .int a1] M r M := by
  intro sz
  refine K_of (Qc := (fun sz => QI X 1 r M sz)) (own := RX10) (lv0 := [(0, .ref (X.2.2 109)), (1, .int a1)]) (by decide +kernel) rfl (Nat.le_of_ble_eq_true rfl) rfl (fun p e s m args below meth c S => ?_) sz
  · unfold f_X10_ringsFor at he
    refine z_iconst (v := 0) S dX10_ringsFor_0 (by decide) ?_
    refine z_istore_n (lv' := [(0, .ref (X.2.2 109)), (1, .int a1), (2, .int 0)]) S [1, 2, 0] dX10_ringsFor_1 rfl (by decide) rfl ?_
    refine z_iconst (v := 0) S dX10_ringsFor_2 (by decide) ?_
    refine z_istore_n (lv' := [(0, .ref (X.2.2 109)), (1, .int a1), (2, .int 0), (3, .int 0)]) S [1, 2, 3, 0] dX10_ringsFor_3 rfl (by decide) rfl ?_
    obtain ⟨e_3, hl, he⟩ := bnd he
    have hX : Z X 1 p l e rm_X10_ringsFor s m args below meth c 0 0 (MQ below (QI X 1 r M s.heap.size) args s 0 0 (AA X 1 s.heap.size)) 4 M 39 [(2, .int e_3)] [] := by
      refine z_iload_n S dX10_ringsFor_39 rfl 0 rfl ?_
      exact z_iret S (⟨Option.some.inj he, rfl⟩) dX10_ringsFor_40
    have hZ9 := loopZ (f := (fun a_3 => f_X10_ringsFor_L4 M a1 a_3.1 a_3.2)) (Zh := (fun a_3 => Z X 1 p l e rm_X10_ringsFor s m args below meth c 0 0 (MQ below (QI X 1 r M s.heap.size) args s 0 0 (AA X 1 s.heap.size)) 4 M 4 [(0, .ref (X.2.2 109)), (1, .int a1), (2, .int a_3.1), (3, .int a_3.2)] [])) (fun a_3 x hb hc hr => p_X10_ringsFor_L4 S  hb hc (fun b hxe => by rw [hr b hxe]; exact hX)) FU (0, 0) hl
    exact hZ9
set_option maxRecDepth 100000 in
set_option maxHeartbeats 4000000 in
theorem p_X10_alone_L13 {X : Cx} {p : Program} {l : Launch} {e : Env} {s : State} {m : MethodId} {args : Array Value} {below : List Frame} {meth : Method} {c : Code} (S : SB X 1 p s m args meth c cX10_alone 3 (some .int) RX10) {M : Mm} {N : Mm} {r : Int32} {v1 : Int32} {v2 : Int32} {x : (Int32 × Int32) ⊕ Int32}  (he : f_X10_alone_L13 M v1 v2 = some x) (hc : ∀ b, x = .inl b → Z X 1 p l e rm_X10_alone s m args below meth c 0 0 (MQ below (QI X 1 r N s.heap.size) args s 0 0 (AA X 1 s.heap.size)) 3 M 13 [(0, .ref (X.2.2 109)), (1, .int b.1), (2, .int b.2)] []) (hx : ∀ b, x = .inr b → Z X 1 p l e rm_X10_alone s m args below meth c 0 0 (MQ below (QI X 1 r N s.heap.size) args s 0 0 (AA X 1 s.heap.size)) 3 M 47 [(1, .int b)] []) : Z X 1 p l e rm_X10_alone s m args below meth c 0 0 (MQ below (QI X 1 r N s.heap.size) args s 0 0 (AA X 1 s.heap.size)) 3 M 13 [(0, .ref (X.2.2 109)), (1, .int v1), (2, .int v2)] [] := by
  unfold f_X10_alone_L13 at he
  refine z_iload_n S dX10_alone_13 rfl 2 rfl ?_
  refine z_aload_n S dX10_alone_14 rfl 0 rfl ?_
  refine z_getF (j := 110) S fo_RX10_7 1 rfl rfl ok_109 dX10_alone_15 ?_
  refine z_iconst (v := 3) S dX10_alone_18 (by decide) ?_
  refine z_iald S ok_110 rfl he dX10_alone_19 (fun he => ?_)
  refine z_icmp_ge (tgt := 47) S he dX10_alone_20 (by decide) (fun he => ?_) (fun he => ?_)
  · refine z_lv (ks := [1]) rfl ?_
    exact hx _ (Option.some.inj he).symm
  · refine z_iload_n S dX10_alone_23 rfl 1 rfl ?_
    refine z_aload_n S dX10_alone_24 rfl 0 rfl ?_
    refine z_iload_n S dX10_alone_25 rfl 2 rfl ?_
    obtain ⟨r3, h9, he⟩ := bnd he
    refine z_cVI (As := [.int v2]) S cv_RX10_291 (K_X10_ringsFor  h9) ok_109 (by decide) (q := (RX10, TX10, 28)) rfl rfl ⟨rfl, rfl⟩ ⟨Nat.le_of_ble_eq_true rfl, Nat.le_of_ble_eq_true rfl⟩ ⟨Nat.le_refl _, Nat.le_refl _⟩ rfl rfl (Nat.le_of_ble_eq_true rfl) dX10_alone_26 ?_
    refine z_if_ne (tgt := 38) S he dX10_alone_29 (by decide) (fun he => ?_) (fun he => ?_)
    · refine z_iconst (v := 0) S dX10_alone_38 (by decide) ?_
      refine z_ior S dX10_alone_39 ?_
      refine z_istore_n (lv' := [(0, .ref (X.2.2 109)), (1, .int (v1 ||| 0)), (2, .int v2)]) S [1, 0, 2] dX10_alone_40 rfl (by decide) rfl ?_
      refine z_iinc (v := (v2 + 1)) (lv' := [(0, .ref (X.2.2 109)), (1, .int (v1 ||| 0)), (2, .int (v2 + 1))]) S [1, 2, 0] 2 dX10_alone_41 rfl (by rfl) (by decide) rfl ?_
      refine z_goto (tgt := 13) S dX10_alone_44 (by decide) ?_
      refine z_lv (ks := [0, 1, 2]) rfl ?_
      exact hc _ (Option.some.inj he).symm
    · refine z_iconst (v := 1) S dX10_alone_32 (by decide) ?_
      refine z_iload_n S dX10_alone_33 rfl 2 rfl ?_
      refine z_ishl S dX10_alone_34 ?_
      refine z_goto (tgt := 39) S dX10_alone_35 (by decide) ?_
      refine z_ior S dX10_alone_39 ?_
      obtain ⟨x4, ex4, he⟩ := bnd he
      rw [Option.some.inj ex4]
      refine z_istore_n (lv' := [(0, .ref (X.2.2 109)), (1, .int x4), (2, .int v2)]) S [1, 0, 2] dX10_alone_40 rfl (by decide) rfl ?_
      refine z_iinc (v := (v2 + 1)) (lv' := [(0, .ref (X.2.2 109)), (1, .int x4), (2, .int (v2 + 1))]) S [1, 2, 0] 2 dX10_alone_41 rfl (by rfl) (by decide) rfl ?_
      refine z_goto (tgt := 13) S dX10_alone_44 (by decide) ?_
      refine z_lv (ks := [0, 1, 2]) rfl ?_
      exact hc _ (Option.some.inj he).symm
set_option maxRecDepth 100000 in
set_option maxHeartbeats 4000000 in
theorem K_X10_alone {X : Cx} {l : Launch} {M : Mm} {r : Int32} {N : Mm}  (he : f_X10_alone M  = some (r, N)) : KI X 1 l yX10_alone (wz yX10_alone cX10_alone 3 (some .int)) rm_X10_alone [.ref (X.2.2 109)] M r N := by
  intro sz
  refine K_of (Qc := (fun sz => QI X 1 r N sz)) (own := RX10) (lv0 := [(0, .ref (X.2.2 109))]) (by decide +kernel) rfl (Nat.le_of_ble_eq_true rfl) rfl (fun p e s m args below meth c S => ?_) sz
  · unfold f_X10_alone at he
    refine z_aload_n S dX10_alone_0 rfl 0 rfl ?_
    refine z_iconst (v := 0) S dX10_alone_1 (by decide) ?_
    refine z_putIb S fo_RX10_63p rfl ok_109 rfl rfl he dX10_alone_2 (fun M1 he => ?_)
    refine z_aload_n S dX10_alone_5 rfl 0 rfl ?_
    obtain ⟨M2, h9, he⟩ := bnd he
    refine z_cVV (As := []) S cv_RX10_272 (K_X10_asks  h9) ok_109 (by decide) (q := (RX10, TX10, 28)) rfl rfl ⟨rfl, rfl⟩ ⟨Nat.le_of_ble_eq_true rfl, Nat.le_of_ble_eq_true rfl⟩ ⟨Nat.le_refl _, Nat.le_refl _⟩ rfl rfl (Nat.le_of_ble_eq_true rfl) dX10_alone_6 ?_
    refine z_iconst (v := 0) S dX10_alone_9 (by decide) ?_
    refine z_istore_n (lv' := [(0, .ref (X.2.2 109)), (1, .int 0)]) S [1, 0] dX10_alone_10 rfl (by decide) rfl ?_
    refine z_iconst (v := 0) S dX10_alone_11 (by decide) ?_
    refine z_istore_n (lv' := [(0, .ref (X.2.2 109)), (1, .int 0), (2, .int 0)]) S [1, 2, 0] dX10_alone_12 rfl (by decide) rfl ?_
    obtain ⟨e_5, hl, he⟩ := bnd he
    have hX : Z X 1 p l e rm_X10_alone s m args below meth c 0 0 (MQ below (QI X 1 r N s.heap.size) args s 0 0 (AA X 1 s.heap.size)) 3 M2 47 [(1, .int e_5)] [] := by
      refine z_iload_n S dX10_alone_47 rfl 0 rfl ?_
      exact z_iret S (Prod.mk.inj (Option.some.inj he)) dX10_alone_48
    have hZ9 := loopZ (f := (fun a_5 => f_X10_alone_L13 M2 a_5.1 a_5.2)) (Zh := (fun a_5 => Z X 1 p l e rm_X10_alone s m args below meth c 0 0 (MQ below (QI X 1 r N s.heap.size) args s 0 0 (AA X 1 s.heap.size)) 3 M2 13 [(0, .ref (X.2.2 109)), (1, .int a_5.1), (2, .int a_5.2)] [])) (fun a_5 x hb hc hr => p_X10_alone_L13 S  hb hc (fun b hxe => by rw [hr b hxe]; exact hX)) FU (0, 0) hl
    exact hZ9
def HR_gfinds (X : Cx) (l : Launch) (d : Nat) (rc : RT_gfinds) : Prop := (∀ (M : Mm) (a1 : Int32) (a2 : Int32) (r : Bool) (N : Mm), rc M a1 a2 = some (r, N) → KI X 1 l yX10_finds (wz yX10_finds cX10_finds 5 (some .boolean)) (rmr_gfinds d) [.ref (X.2.2 109), .int a1, .int a2] M (bI r) N)
set_option maxRecDepth 100000 in
set_option maxHeartbeats 4000000 in
theorem p_X10_finds_L2 {X : Cx} {p : Program} {l : Launch} {e : Env} {s : State} {m : MethodId} {args : Array Value} {below : List Frame} {meth : Method} {c : Code} {d9 : Nat} {rc : RT_gfinds} (hrc : HR_gfinds X l d9 rc) (S : SB X 1 p s m args meth c cX10_finds 5 (some .boolean) RX10) {M : Mm} {N : Mm} {r : Bool} {v1 : Int32} {v2 : Int32} {v3 : Int32} {x : (Mm × Int32) ⊕ ((Bool × Mm) ⊕ Mm)}  (he : f_X10_finds_L2 rc M v1 v2 v3 = some x) (hc : ∀ b, x = .inl b → Z X 1 p l e (rmr_gfinds (d9 + 1)) s m args below meth c 0 0 (MQ below (QI X 1 (bI r) N s.heap.size) args s 0 0 (AA X 1 s.heap.size)) 5 b.1 2 [(0, .ref (X.2.2 109)), (1, .int v1), (2, .int v2), (3, .int b.2)] []) (hx : ∀ b, x = .inr (.inr b) → Z X 1 p l e (rmr_gfinds (d9 + 1)) s m args below meth c 0 0 (MQ below (QI X 1 (bI r) N s.heap.size) args s 0 0 (AA X 1 s.heap.size)) 5 b 72 [(0, .ref (X.2.2 109)), (1, .int v1), (2, .int v2)] []) (hr : ∀ v, x = .inr (.inl v) → v = (r, N)) : Z X 1 p l e (rmr_gfinds (d9 + 1)) s m args below meth c 0 0 (MQ below (QI X 1 (bI r) N s.heap.size) args s 0 0 (AA X 1 s.heap.size)) 5 M 2 [(0, .ref (X.2.2 109)), (1, .int v1), (2, .int v2), (3, .int v3)] [] := by
  unfold f_X10_finds_L2 at he
  refine z_iload_n S dX10_finds_2 rfl 3 rfl ?_
  refine z_aload_n S dX10_finds_3 rfl 0 rfl ?_
  refine z_getF (j := 110) S fo_RX10_7 1 rfl rfl ok_109 dX10_finds_4 ?_
  refine z_iconst (v := 3) S dX10_finds_7 (by decide) ?_
  refine z_iald S ok_110 rfl he dX10_finds_8 (fun he => ?_)
  refine z_icmp_ge (tgt := 72) S he dX10_finds_9 (by decide) (fun he => ?_) (fun he => ?_)
  · refine z_lv (ks := [0, 1, 2]) rfl ?_
    exact hx _ (Option.some.inj he).symm
  · refine z_aload_n S dX10_finds_12 rfl 0 rfl ?_
    refine z_getF (j := 121) S fo_RX10_47 12 rfl rfl ok_109 dX10_finds_13 ?_
    refine z_iload_n S dX10_finds_16 rfl 1 rfl ?_
    refine z_iald S ok_121 rfl he dX10_finds_17 (fun he => ?_)
    refine z_iload_n S dX10_finds_18 rfl 2 rfl ?_
    refine z_iconst (v := (-1)) S dX10_finds_19 (by decide) ?_
    refine z_ixor S dX10_finds_20 ?_
    refine z_iand S dX10_finds_21 ?_
    refine z_iload_n S dX10_finds_22 rfl 3 rfl ?_
    refine z_cSI (As := [.int ((gA M 121 v1) &&& (v2 ^^^ (-1))), .int v3]) S cs_RX10_117 (K_X10_isOf  rfl) ⟨rfl, rfl⟩ (rr_o rfl rfl) ⟨Nat.le_refl _, Nat.le_refl _⟩ rfl rfl (Nat.le_of_ble_eq_true rfl) dX10_finds_23 ?_
    refine z_ifb_eq (tgt := 66) S he dX10_finds_26 (by decide) (fun he => ?_) (fun he => ?_)
    · refine z_iinc (v := (v3 + 1)) (lv' := [(0, .ref (X.2.2 109)), (1, .int v1), (2, .int v2), (3, .int (v3 + 1))]) S [1, 2, 3, 0] 3 dX10_finds_66 rfl (by rfl) (by decide) rfl ?_
      refine z_goto (tgt := 2) S dX10_finds_69 (by decide) ?_
      refine z_lv (ks := [0, 1, 2, 3]) rfl ?_
      exact hc _ (Option.some.inj he).symm
    · refine z_aload_n S dX10_finds_29 rfl 0 rfl ?_
      refine z_getF (j := 119) S fo_RX10_41 10 rfl rfl ok_109 dX10_finds_30 ?_
      refine z_iload_n S dX10_finds_33 rfl 3 rfl ?_
      refine z_iald S ok_119 rfl he dX10_finds_34 (fun he => ?_)
      refine z_aload_n S dX10_finds_35 rfl 0 rfl ?_
      refine z_iload_n S dX10_finds_36 rfl 3 rfl ?_
      refine z_iconst (v := 2) S dX10_finds_37 (by decide) ?_
      obtain ⟨r1, h9, he⟩ := bnd he
      refine z_cVI (As := [.int v3, .int 2]) S cv_RX10_70 (K_X10_of  h9) ok_109 (by decide) (q := (RX10, TX10, 28)) rfl rfl ⟨rfl, rfl⟩ (rr_o rfl rfl) ⟨Nat.le_refl _, Nat.le_refl _⟩ rfl rfl (Nat.le_of_ble_eq_true rfl) dX10_finds_38 ?_
      refine z_icmp_ne (tgt := 47) S he dX10_finds_41 (by decide) (fun he => ?_) (fun he => ?_)
      · refine z_aload_n S dX10_finds_47 rfl 0 rfl ?_
        refine z_getF (j := 120) S fo_RX10_44 11 rfl rfl ok_109 dX10_finds_48 ?_
        refine z_iload_n S dX10_finds_51 rfl 1 rfl ?_
        refine z_iload_n S dX10_finds_52 rfl 3 rfl ?_
        refine z_iastb S ok_120 rfl he dX10_finds_53 (fun M2 he => ?_)
        refine z_aload_n S dX10_finds_54 rfl 0 rfl ?_
        refine z_getF (j := 119) S fo_RX10_41 10 rfl rfl ok_109 dX10_finds_55 ?_
        refine z_iload_n S dX10_finds_58 rfl 3 rfl ?_
        refine z_dup2 S dX10_finds_59 rfl rfl ?_
        refine z_iald S ok_119 rfl he dX10_finds_60 (fun he => ?_)
        refine z_iconst (v := 1) S dX10_finds_61 (by decide) ?_
        refine z_iadd S dX10_finds_62 ?_
        refine z_iastb S ok_119 rfl he dX10_finds_63 (fun M3 he => ?_)
        refine z_iconst (v := 1) S dX10_finds_64 (by decide) ?_
        exact z_zret1 S (Prod.mk.inj (hr _ (Option.some.inj he).symm)) dX10_finds_65
      · refine z_goto (tgt := 66) S dX10_finds_44 (by decide) ?_
        refine z_iinc (v := (v3 + 1)) (lv' := [(0, .ref (X.2.2 109)), (1, .int v1), (2, .int v2), (3, .int (v3 + 1))]) S [1, 2, 3, 0] 3 dX10_finds_66 rfl (by rfl) (by decide) rfl ?_
        refine z_goto (tgt := 2) S dX10_finds_69 (by decide) ?_
        refine z_lv (ks := [0, 1, 2, 3]) rfl ?_
        exact hc _ (Option.some.inj he).symm
set_option maxRecDepth 100000 in
set_option maxHeartbeats 4000000 in
theorem p_X10_finds_L74 {X : Cx} {p : Program} {l : Launch} {e : Env} {s : State} {m : MethodId} {args : Array Value} {below : List Frame} {meth : Method} {c : Code} {d9 : Nat} {rc : RT_gfinds} (hrc : HR_gfinds X l d9 rc) (S : SB X 1 p s m args meth c cX10_finds 5 (some .boolean) RX10) {M : Mm} {N : Mm} {r : Bool} {v1 : Int32} {v2 : Int32} {v3 : Int32} {x : (Mm × Int32) ⊕ ((Bool × Mm) ⊕ Mm)}  (he : f_X10_finds_L74 rc M v1 v2 v3 = some x) (hc : ∀ b, x = .inl b → Z X 1 p l e (rmr_gfinds (d9 + 1)) s m args below meth c 0 0 (MQ below (QI X 1 (bI r) N s.heap.size) args s 0 0 (AA X 1 s.heap.size)) 5 b.1 74 [(0, .ref (X.2.2 109)), (1, .int v1), (2, .int v2), (3, .int b.2)] []) (hx : ∀ b, x = .inr (.inr b) → Z X 1 p l e (rmr_gfinds (d9 + 1)) s m args below meth c 0 0 (MQ below (QI X 1 (bI r) N s.heap.size) args s 0 0 (AA X 1 s.heap.size)) 5 b 162 [] []) (hr : ∀ v, x = .inr (.inl v) → v = (r, N)) : Z X 1 p l e (rmr_gfinds (d9 + 1)) s m args below meth c 0 0 (MQ below (QI X 1 (bI r) N s.heap.size) args s 0 0 (AA X 1 s.heap.size)) 5 M 74 [(0, .ref (X.2.2 109)), (1, .int v1), (2, .int v2), (3, .int v3)] [] := by
  unfold f_X10_finds_L74 at he
  refine z_iload_n S dX10_finds_74 rfl 3 rfl ?_
  refine z_aload_n S dX10_finds_75 rfl 0 rfl ?_
  refine z_getF (j := 110) S fo_RX10_7 1 rfl rfl ok_109 dX10_finds_76 ?_
  refine z_iconst (v := 4) S dX10_finds_79 (by decide) ?_
  refine z_iald S ok_110 rfl he dX10_finds_80 (fun he => ?_)
  refine z_icmp_ge (tgt := 162) S he dX10_finds_81 (by decide) (fun he => ?_) (fun he => ?_)
  · refine z_lv (ks := []) rfl ?_
    exact hx _ (Option.some.inj he).symm
  · refine z_aload_n S dX10_finds_84 rfl 0 rfl ?_
    refine z_getF (j := 120) S fo_RX10_44 11 rfl rfl ok_109 dX10_finds_85 ?_
    refine z_iload_n S dX10_finds_88 rfl 3 rfl ?_
    refine z_iald S ok_120 rfl he dX10_finds_89 (fun he => ?_)
    refine z_iconst (v := (-1)) S dX10_finds_90 (by decide) ?_
    refine z_icmp_eq (tgt := 156) S he dX10_finds_91 (by decide) (fun he => ?_) (fun he => ?_)
    · refine z_iinc (v := (v3 + 1)) (lv' := [(0, .ref (X.2.2 109)), (1, .int v1), (2, .int v2), (3, .int (v3 + 1))]) S [1, 2, 3, 0] 3 dX10_finds_156 rfl (by rfl) (by decide) rfl ?_
      refine z_goto (tgt := 74) S dX10_finds_159 (by decide) ?_
      refine z_lv (ks := [0, 1, 2, 3]) rfl ?_
      exact hc _ (Option.some.inj he).symm
    · refine z_aload_n S dX10_finds_94 rfl 0 rfl ?_
      refine z_getF (j := 121) S fo_RX10_47 12 rfl rfl ok_109 dX10_finds_95 ?_
      refine z_iload_n S dX10_finds_98 rfl 1 rfl ?_
      refine z_iald S ok_121 rfl he dX10_finds_99 (fun he => ?_)
      refine z_iload_n S dX10_finds_100 rfl 2 rfl ?_
      refine z_iconst (v := (-1)) S dX10_finds_101 (by decide) ?_
      refine z_ixor S dX10_finds_102 ?_
      refine z_iand S dX10_finds_103 ?_
      refine z_aload_n S dX10_finds_104 rfl 0 rfl ?_
      refine z_getF (j := 120) S fo_RX10_44 11 rfl rfl ok_109 dX10_finds_105 ?_
      refine z_iload_n S dX10_finds_108 rfl 3 rfl ?_
      refine z_iald S ok_120 rfl he dX10_finds_109 (fun he => ?_)
      refine z_cSI (As := [.int ((gA M 121 v1) &&& (v2 ^^^ (-1))), .int (gA M 120 v3)]) S cs_RX10_117 (K_X10_isOf  rfl) ⟨rfl, rfl⟩ (rr_o rfl rfl) ⟨Nat.le_refl _, Nat.le_refl _⟩ rfl rfl (Nat.le_of_ble_eq_true rfl) dX10_finds_110 ?_
      refine z_ifb_ne (tgt := 119) S he dX10_finds_113 (by decide) (fun he => ?_) (fun he => ?_)
      · refine z_aload_n S dX10_finds_119 rfl 0 rfl ?_
        refine z_getF (j := 120) S fo_RX10_44 11 rfl rfl ok_109 dX10_finds_120 ?_
        refine z_iload_n S dX10_finds_123 rfl 3 rfl ?_
        refine z_iald S ok_120 rfl he dX10_finds_124 (fun he => ?_)
        refine z_istore (lv' := [(0, .ref (X.2.2 109)), (1, .int v1), (2, .int v2), (3, .int v3), (4, .int (gA M 120 v3))]) S [1, 2, 3, 4, 0] dX10_finds_125 (by decide) rfl ?_
        refine z_aload_n S dX10_finds_127 rfl 0 rfl ?_
        refine z_iload_n S dX10_finds_128 rfl 3 rfl ?_
        refine z_iload_n S dX10_finds_129 rfl 2 rfl ?_
        refine z_aload_n S dX10_finds_130 rfl 0 rfl ?_
        refine z_getF (j := 121) S fo_RX10_47 12 rfl rfl ok_109 dX10_finds_131 ?_
        refine z_iload_n S dX10_finds_134 rfl 1 rfl ?_
        refine z_iald S ok_121 rfl he dX10_finds_135 (fun he => ?_)
        refine z_ior S dX10_finds_136 ?_
        obtain ⟨⟨r5, M6⟩, h9, he⟩ := bnd he
        dsimp only at he
        refine z_cVI (As := [.int v3, .int (v2 ||| (gA M 121 v1))]) S cv_RX10_315 (hrc _ _ _ _ _  h9) ok_109 (by decide) (q := (RX10, TX10, 28)) rfl rfl ⟨rfl, rfl⟩ (rr_r rfl) ⟨Nat.le_refl _, Nat.le_refl _⟩ rfl rfl (Nat.le_of_ble_eq_true rfl) dX10_finds_137 ?_
        refine z_ifb_ne (tgt := 146) S he dX10_finds_140 (by decide) (fun he => ?_) (fun he => ?_)
        · refine z_aload_n S dX10_finds_146 rfl 0 rfl ?_
          refine z_getF (j := 120) S fo_RX10_44 11 rfl rfl ok_109 dX10_finds_147 ?_
          refine z_iload_n S dX10_finds_150 rfl 1 rfl ?_
          refine z_iload S dX10_finds_151 4 rfl ?_
          refine z_iastb S ok_120 rfl he dX10_finds_153 (fun M7 he => ?_)
          refine z_iconst (v := 1) S dX10_finds_154 (by decide) ?_
          exact z_zret1 S (Prod.mk.inj (hr _ (Option.some.inj he).symm)) dX10_finds_155
        · refine z_goto (tgt := 156) S dX10_finds_143 (by decide) ?_
          refine z_iinc (v := (v3 + 1)) (lv' := [(0, .ref (X.2.2 109)), (1, .int v1), (2, .int v2), (3, .int (v3 + 1)), (4, .int (gA M 120 v3))]) S [1, 2, 3, 0, 4] 3 dX10_finds_156 rfl (by rfl) (by decide) rfl ?_
          refine z_goto (tgt := 74) S dX10_finds_159 (by decide) ?_
          refine z_lv (ks := [0, 1, 2, 3]) rfl ?_
          exact hc _ (Option.some.inj he).symm
      · refine z_goto (tgt := 156) S dX10_finds_116 (by decide) ?_
        refine z_iinc (v := (v3 + 1)) (lv' := [(0, .ref (X.2.2 109)), (1, .int v1), (2, .int v2), (3, .int (v3 + 1))]) S [1, 2, 3, 0] 3 dX10_finds_156 rfl (by rfl) (by decide) rfl ?_
        refine z_goto (tgt := 74) S dX10_finds_159 (by decide) ?_
        refine z_lv (ks := [0, 1, 2, 3]) rfl ?_
        exact hc _ (Option.some.inj he).symm
set_option maxRecDepth 100000 in
set_option maxHeartbeats 4000000 in
theorem KB_X10_finds {X : Cx} {l : Launch} {d9 : Nat} {rc : RT_gfinds} (hrc : HR_gfinds X l d9 rc) {M : Mm} {a1 : Int32} {a2 : Int32} {r : Bool} {N : Mm} (he : fB_X10_finds rc M a1 a2 = some (r, N)) : KI X 1 l yX10_finds (wz yX10_finds cX10_finds 5 (some .boolean)) (rmr_gfinds (d9 + 1)) [.ref (X.2.2 109), .int a1, .int a2] M (bI r) N := by
  intro sz
  refine K_of (Qc := (fun sz => QI X 1 (bI r) N sz)) (own := RX10) (lv0 := [(0, .ref (X.2.2 109)), (1, .int a1), (2, .int a2)]) (by decide +kernel) rfl (Nat.le_of_ble_eq_true rfl) rfl (fun p e s m args below meth c S => ?_) sz
  · unfold fB_X10_finds at he
    refine z_iconst (v := 0) S dX10_finds_0 (by decide) ?_
    refine z_istore_n (lv' := [(0, .ref (X.2.2 109)), (1, .int a1), (2, .int a2), (3, .int 0)]) S [1, 2, 3, 0] dX10_finds_1 rfl (by decide) rfl ?_
    obtain ⟨r9, hl, hr1, hr2⟩ := bndS he
    have hX : ∀ e_4, r9 = .inr e_4 → Z X 1 p l e (rmr_gfinds (d9 + 1)) s m args below meth c 0 0 (MQ below (QI X 1 (bI r) N s.heap.size) args s 0 0 (AA X 1 s.heap.size)) 5 e_4 72 [(0, .ref (X.2.2 109)), (1, .int a1), (2, .int a2)] [] := by
      intro e_4 hre
      have he := hr2 e_4 hre
      refine z_iconst (v := 0) S dX10_finds_72 (by decide) ?_
      refine z_istore_n (lv' := [(0, .ref (X.2.2 109)), (1, .int a1), (2, .int a2), (3, .int 0)]) S [1, 2, 3, 0] dX10_finds_73 rfl (by decide) rfl ?_
      obtain ⟨r9, hl, hr1, hr2⟩ := bndS he
      have hX : ∀ e_8, r9 = .inr e_8 → Z X 1 p l e (rmr_gfinds (d9 + 1)) s m args below meth c 0 0 (MQ below (QI X 1 (bI r) N s.heap.size) args s 0 0 (AA X 1 s.heap.size)) 5 e_8 162 [] [] := by
        intro e_8 hre
        have he := hr2 e_8 hre
        refine z_iconst (v := 0) S dX10_finds_162 (by decide) ?_
        exact z_zret0 S (Prod.mk.inj (Option.some.inj he)) dX10_finds_163
      have hZ9 := loopZ (f := (fun a_8 => f_X10_finds_L74 rc a_8.1 a1 a2 a_8.2)) (Zh := (fun a_8 => Z X 1 p l e (rmr_gfinds (d9 + 1)) s m args below meth c 0 0 (MQ below (QI X 1 (bI r) N s.heap.size) args s 0 0 (AA X 1 s.heap.size)) 5 a_8.1 74 [(0, .ref (X.2.2 109)), (1, .int a1), (2, .int a2), (3, .int a_8.2)] [])) (fun a_8 x hb hc hr9 => p_X10_finds_L74 hrc S  hb hc (fun b hxe => hX b (hr9 _ hxe).symm) (fun v hxv => Option.some.inj (hr1 v (hr9 _ hxv).symm))) FU (e_4, 0) hl
      exact hZ9
    have hZ9 := loopZ (f := (fun a_4 => f_X10_finds_L2 rc a_4.1 a1 a2 a_4.2)) (Zh := (fun a_4 => Z X 1 p l e (rmr_gfinds (d9 + 1)) s m args below meth c 0 0 (MQ below (QI X 1 (bI r) N s.heap.size) args s 0 0 (AA X 1 s.heap.size)) 5 a_4.1 2 [(0, .ref (X.2.2 109)), (1, .int a1), (2, .int a2), (3, .int a_4.2)] [])) (fun a_4 x hb hc hr9 => p_X10_finds_L2 hrc S  hb hc (fun b hxe => hX b (hr9 _ hxe).symm) (fun v hxv => Option.some.inj (hr1 v (hr9 _ hxv).symm))) FU (M, 0) hl
    exact hZ9
theorem HR_all_gfinds {X : Cx} {l : Launch} : ∀ d, HR_gfinds X l d (f_gfinds d) := by
  intro d
  induction d with
  | zero => exact (fun M _ _ r N h => nomatch h)
  | succ d ih => exact (fun M b0 b1 r N h => KB_X10_finds ih h)
theorem K_X10_finds {X : Cx} {l : Launch} {M : Mm} {a1 : Int32} {a2 : Int32} {r : Bool} {N : Mm} (he : f_X10_finds M a1 a2 = some (r, N)) : KI X 1 l yX10_finds (wz yX10_finds cX10_finds 5 (some .boolean)) rm_X10_finds [.ref (X.2.2 109), .int a1, .int a2] M (bI r) N := (HR_all_gfinds 40) M a1 a2 r N he
set_option maxRecDepth 100000 in
set_option maxHeartbeats 4000000 in
theorem p_X10_areHad_L2 {X : Cx} {p : Program} {l : Launch} {e : Env} {s : State} {m : MethodId} {args : Array Value} {below : List Frame} {meth : Method} {c : Code} (S : SB X 1 p s m args meth c cX10_areHad 3 (some .boolean) RX10) {M : Mm} {N : Mm} {r : Bool} {v1 : Int32} {v2 : Int32} {x : (Mm × Int32) ⊕ Mm}  (he : f_X10_areHad_L2 M v1 v2 = some x) (hc : ∀ b, x = .inl b → Z X 1 p l e rm_X10_areHad s m args below meth c 0 0 (MQ below (QI X 1 (bI r) N s.heap.size) args s 0 0 (AA X 1 s.heap.size)) 3 b.1 2 [(0, .ref (X.2.2 109)), (1, .int v1), (2, .int b.2)] []) (hx : ∀ b, x = .inr b → Z X 1 p l e rm_X10_areHad s m args below meth c 0 0 (MQ below (QI X 1 (bI r) N s.heap.size) args s 0 0 (AA X 1 s.heap.size)) 3 b 21 [(0, .ref (X.2.2 109)), (1, .int v1)] []) : Z X 1 p l e rm_X10_areHad s m args below meth c 0 0 (MQ below (QI X 1 (bI r) N s.heap.size) args s 0 0 (AA X 1 s.heap.size)) 3 M 2 [(0, .ref (X.2.2 109)), (1, .int v1), (2, .int v2)] [] := by
  unfold f_X10_areHad_L2 at he
  refine z_iload_n S dX10_areHad_2 rfl 2 rfl ?_
  refine z_bipush (v := 9) S dX10_areHad_3 (by decide) ?_
  refine z_icmp_ge (tgt := 21) S he dX10_areHad_5 (by decide) (fun he => ?_) (fun he => ?_)
  · refine z_lv (ks := [0, 1]) rfl ?_
    exact hx _ (Option.some.inj he).symm
  · refine z_aload_n S dX10_areHad_8 rfl 0 rfl ?_
    refine z_getF (j := 119) S fo_RX10_41 10 rfl rfl ok_109 dX10_areHad_9 ?_
    refine z_iload_n S dX10_areHad_12 rfl 2 rfl ?_
    refine z_iconst (v := 0) S dX10_areHad_13 (by decide) ?_
    refine z_iastb S ok_119 rfl he dX10_areHad_14 (fun M1 he => ?_)
    refine z_iinc (v := (v2 + 1)) (lv' := [(0, .ref (X.2.2 109)), (1, .int v1), (2, .int (v2 + 1))]) S [1, 2, 0] 2 dX10_areHad_15 rfl (by rfl) (by decide) rfl ?_
    refine z_goto (tgt := 2) S dX10_areHad_18 (by decide) ?_
    refine z_lv (ks := [0, 1, 2]) rfl ?_
    exact hc _ (Option.some.inj he).symm
set_option maxRecDepth 100000 in
set_option maxHeartbeats 4000000 in
theorem p_X10_areHad_L23 {X : Cx} {p : Program} {l : Launch} {e : Env} {s : State} {m : MethodId} {args : Array Value} {below : List Frame} {meth : Method} {c : Code} (S : SB X 1 p s m args meth c cX10_areHad 3 (some .boolean) RX10) {M : Mm} {N : Mm} {r : Bool} {v1 : Int32} {v2 : Int32} {x : (Mm × Int32) ⊕ Mm}  (he : f_X10_areHad_L23 M v1 v2 = some x) (hc : ∀ b, x = .inl b → Z X 1 p l e rm_X10_areHad s m args below meth c 0 0 (MQ below (QI X 1 (bI r) N s.heap.size) args s 0 0 (AA X 1 s.heap.size)) 3 b.1 23 [(0, .ref (X.2.2 109)), (1, .int v1), (2, .int b.2)] []) (hx : ∀ b, x = .inr b → Z X 1 p l e rm_X10_areHad s m args below meth c 0 0 (MQ below (QI X 1 (bI r) N s.heap.size) args s 0 0 (AA X 1 s.heap.size)) 3 b 42 [(0, .ref (X.2.2 109)), (1, .int v1)] []) : Z X 1 p l e rm_X10_areHad s m args below meth c 0 0 (MQ below (QI X 1 (bI r) N s.heap.size) args s 0 0 (AA X 1 s.heap.size)) 3 M 23 [(0, .ref (X.2.2 109)), (1, .int v1), (2, .int v2)] [] := by
  unfold f_X10_areHad_L23 at he
  refine z_iload_n S dX10_areHad_23 rfl 2 rfl ?_
  refine z_bipush (v := 10) S dX10_areHad_24 (by decide) ?_
  refine z_icmp_ge (tgt := 42) S he dX10_areHad_26 (by decide) (fun he => ?_) (fun he => ?_)
  · refine z_lv (ks := [0, 1]) rfl ?_
    exact hx _ (Option.some.inj he).symm
  · refine z_aload_n S dX10_areHad_29 rfl 0 rfl ?_
    refine z_getF (j := 120) S fo_RX10_44 11 rfl rfl ok_109 dX10_areHad_30 ?_
    refine z_iload_n S dX10_areHad_33 rfl 2 rfl ?_
    refine z_iconst (v := (-1)) S dX10_areHad_34 (by decide) ?_
    refine z_iastb S ok_120 rfl he dX10_areHad_35 (fun M3 he => ?_)
    refine z_iinc (v := (v2 + 1)) (lv' := [(0, .ref (X.2.2 109)), (1, .int v1), (2, .int (v2 + 1))]) S [1, 2, 0] 2 dX10_areHad_36 rfl (by rfl) (by decide) rfl ?_
    refine z_goto (tgt := 23) S dX10_areHad_39 (by decide) ?_
    refine z_lv (ks := [0, 1, 2]) rfl ?_
    exact hc _ (Option.some.inj he).symm
set_option maxRecDepth 100000 in
set_option maxHeartbeats 4000000 in
theorem p_X10_areHad_L44 {X : Cx} {p : Program} {l : Launch} {e : Env} {s : State} {m : MethodId} {args : Array Value} {below : List Frame} {meth : Method} {c : Code} (S : SB X 1 p s m args meth c cX10_areHad 3 (some .boolean) RX10) {M : Mm} {N : Mm} {r : Bool} {v1 : Int32} {v2 : Int32} {x : (Mm × Int32) ⊕ ((Bool × Mm) ⊕ Mm)}  (he : f_X10_areHad_L44 M v1 v2 = some x) (hc : ∀ b, x = .inl b → Z X 1 p l e rm_X10_areHad s m args below meth c 0 0 (MQ below (QI X 1 (bI r) N s.heap.size) args s 0 0 (AA X 1 s.heap.size)) 3 b.1 44 [(0, .ref (X.2.2 109)), (1, .int v1), (2, .int b.2)] []) (hx : ∀ b, x = .inr (.inr b) → Z X 1 p l e rm_X10_areHad s m args below meth c 0 0 (MQ below (QI X 1 (bI r) N s.heap.size) args s 0 0 (AA X 1 s.heap.size)) 3 b 79 [] []) (hr : ∀ v, x = .inr (.inl v) → v = (r, N)) : Z X 1 p l e rm_X10_areHad s m args below meth c 0 0 (MQ below (QI X 1 (bI r) N s.heap.size) args s 0 0 (AA X 1 s.heap.size)) 3 M 44 [(0, .ref (X.2.2 109)), (1, .int v1), (2, .int v2)] [] := by
  unfold f_X10_areHad_L44 at he
  refine z_iload_n S dX10_areHad_44 rfl 2 rfl ?_
  refine z_aload_n S dX10_areHad_45 rfl 0 rfl ?_
  refine z_getF (j := 110) S fo_RX10_7 1 rfl rfl ok_109 dX10_areHad_46 ?_
  refine z_iconst (v := 4) S dX10_areHad_49 (by decide) ?_
  refine z_iald S ok_110 rfl he dX10_areHad_50 (fun he => ?_)
  refine z_icmp_ge (tgt := 79) S he dX10_areHad_51 (by decide) (fun he => ?_) (fun he => ?_)
  · refine z_lv (ks := []) rfl ?_
    exact hx _ (Option.some.inj he).symm
  · refine z_iload_n S dX10_areHad_54 rfl 1 rfl ?_
    refine z_iload_n S dX10_areHad_55 rfl 2 rfl ?_
    refine z_cSI (As := [.int v1, .int v2]) S cs_RX10_117 (K_X10_isOf  rfl) ⟨rfl, rfl⟩ ⟨Nat.le_of_ble_eq_true rfl, Nat.le_of_ble_eq_true rfl⟩ ⟨Nat.le_refl _, Nat.le_refl _⟩ rfl rfl (Nat.le_of_ble_eq_true rfl) dX10_areHad_56 ?_
    refine z_ifb_eq (tgt := 73) S he dX10_areHad_59 (by decide) (fun he => ?_) (fun he => ?_)
    · refine z_iinc (v := (v2 + 1)) (lv' := [(0, .ref (X.2.2 109)), (1, .int v1), (2, .int (v2 + 1))]) S [1, 2, 0] 2 dX10_areHad_73 rfl (by rfl) (by decide) rfl ?_
      refine z_goto (tgt := 44) S dX10_areHad_76 (by decide) ?_
      refine z_lv (ks := [0, 1, 2]) rfl ?_
      exact hc _ (Option.some.inj he).symm
    · refine z_aload_n S dX10_areHad_62 rfl 0 rfl ?_
      refine z_iload_n S dX10_areHad_63 rfl 2 rfl ?_
      refine z_iconst (v := 0) S dX10_areHad_64 (by decide) ?_
      obtain ⟨⟨r5, M6⟩, h9, he⟩ := bnd he
      dsimp only at he
      refine z_cVI (As := [.int v2, .int 0]) S cv_RX10_315 (K_X10_finds  h9) ok_109 (by decide) (q := (RX10, TX10, 28)) rfl rfl ⟨rfl, rfl⟩ ⟨Nat.le_of_ble_eq_true rfl, Nat.le_of_ble_eq_true rfl⟩ ⟨Nat.le_refl _, Nat.le_refl _⟩ rfl rfl (Nat.le_of_ble_eq_true rfl) dX10_areHad_65 ?_
      refine z_ifb_ne (tgt := 73) S he dX10_areHad_68 (by decide) (fun he => ?_) (fun he => ?_)
      · refine z_iinc (v := (v2 + 1)) (lv' := [(0, .ref (X.2.2 109)), (1, .int v1), (2, .int (v2 + 1))]) S [1, 2, 0] 2 dX10_areHad_73 rfl (by rfl) (by decide) rfl ?_
        refine z_goto (tgt := 44) S dX10_areHad_76 (by decide) ?_
        refine z_lv (ks := [0, 1, 2]) rfl ?_
        exact hc _ (Option.some.inj he).symm
      · refine z_iconst (v := 0) S dX10_areHad_71 (by decide) ?_
        exact z_zret0 S (Prod.mk.inj (hr _ (Option.some.inj he).symm)) dX10_areHad_72
set_option maxRecDepth 100000 in
set_option maxHeartbeats 4000000 in
theorem K_X10_areHad {X : Cx} {l : Launch} {M : Mm} {a1 : Int32} {r : Bool} {N : Mm}  (he : f_X10_areHad M a1 = some (r, N)) : KI X 1 l yX10_areHad (wz yX10_areHad cX10_areHad 3 (some .boolean)) rm_X10_areHad [.ref (X.2.2 109), .int a1] M (bI r) N := by
  intro sz
  refine K_of (Qc := (fun sz => QI X 1 (bI r) N sz)) (own := RX10) (lv0 := [(0, .ref (X.2.2 109)), (1, .int a1)]) (by decide +kernel) rfl (Nat.le_of_ble_eq_true rfl) rfl (fun p e s m args below meth c S => ?_) sz
  · unfold f_X10_areHad at he
    refine z_iconst (v := 0) S dX10_areHad_0 (by decide) ?_
    refine z_istore_n (lv' := [(0, .ref (X.2.2 109)), (1, .int a1), (2, .int 0)]) S [1, 2, 0] dX10_areHad_1 rfl (by decide) rfl ?_
    obtain ⟨e_2, hl, he⟩ := bnd he
    have hX : Z X 1 p l e rm_X10_areHad s m args below meth c 0 0 (MQ below (QI X 1 (bI r) N s.heap.size) args s 0 0 (AA X 1 s.heap.size)) 3 e_2 21 [(0, .ref (X.2.2 109)), (1, .int a1)] [] := by
      refine z_iconst (v := 0) S dX10_areHad_21 (by decide) ?_
      refine z_istore_n (lv' := [(0, .ref (X.2.2 109)), (1, .int a1), (2, .int 0)]) S [1, 2, 0] dX10_areHad_22 rfl (by decide) rfl ?_
      obtain ⟨e_4, hl, he⟩ := bnd he
      have hX : Z X 1 p l e rm_X10_areHad s m args below meth c 0 0 (MQ below (QI X 1 (bI r) N s.heap.size) args s 0 0 (AA X 1 s.heap.size)) 3 e_4 42 [(0, .ref (X.2.2 109)), (1, .int a1)] [] := by
        refine z_iconst (v := 0) S dX10_areHad_42 (by decide) ?_
        refine z_istore_n (lv' := [(0, .ref (X.2.2 109)), (1, .int a1), (2, .int 0)]) S [1, 2, 0] dX10_areHad_43 rfl (by decide) rfl ?_
        obtain ⟨r9, hl, hr1, hr2⟩ := bndS he
        have hX : ∀ e_7, r9 = .inr e_7 → Z X 1 p l e rm_X10_areHad s m args below meth c 0 0 (MQ below (QI X 1 (bI r) N s.heap.size) args s 0 0 (AA X 1 s.heap.size)) 3 e_7 79 [] [] := by
          intro e_7 hre
          have he := hr2 e_7 hre
          refine z_iconst (v := 1) S dX10_areHad_79 (by decide) ?_
          exact z_zret1 S (Prod.mk.inj (Option.some.inj he)) dX10_areHad_80
        have hZ9 := loopZ (f := (fun a_7 => f_X10_areHad_L44 a_7.1 a1 a_7.2)) (Zh := (fun a_7 => Z X 1 p l e rm_X10_areHad s m args below meth c 0 0 (MQ below (QI X 1 (bI r) N s.heap.size) args s 0 0 (AA X 1 s.heap.size)) 3 a_7.1 44 [(0, .ref (X.2.2 109)), (1, .int a1), (2, .int a_7.2)] [])) (fun a_7 x hb hc hr9 => p_X10_areHad_L44 S  hb hc (fun b hxe => hX b (hr9 _ hxe).symm) (fun v hxv => Option.some.inj (hr1 v (hr9 _ hxv).symm))) FU (e_4, 0) hl
        exact hZ9
      have hZ9 := loopZ (f := (fun a_4 => f_X10_areHad_L23 a_4.1 a1 a_4.2)) (Zh := (fun a_4 => Z X 1 p l e rm_X10_areHad s m args below meth c 0 0 (MQ below (QI X 1 (bI r) N s.heap.size) args s 0 0 (AA X 1 s.heap.size)) 3 a_4.1 23 [(0, .ref (X.2.2 109)), (1, .int a1), (2, .int a_4.2)] [])) (fun a_4 x hb hc hr => p_X10_areHad_L23 S  hb hc (fun b hxe => by rw [hr b hxe]; exact hX)) FU (e_2, 0) hl
      exact hZ9
    have hZ9 := loopZ (f := (fun a_2 => f_X10_areHad_L2 a_2.1 a1 a_2.2)) (Zh := (fun a_2 => Z X 1 p l e rm_X10_areHad s m args below meth c 0 0 (MQ below (QI X 1 (bI r) N s.heap.size) args s 0 0 (AA X 1 s.heap.size)) 3 a_2.1 2 [(0, .ref (X.2.2 109)), (1, .int a1), (2, .int a_2.2)] [])) (fun a_2 x hb hc hr => p_X10_areHad_L2 S  hb hc (fun b hxe => by rw [hr b hxe]; exact hX)) FU (M, 0) hl
    exact hZ9
set_option maxRecDepth 100000 in
set_option maxHeartbeats 4000000 in
theorem p_X10_back_L16 {X : Cx} {p : Program} {l : Launch} {e : Env} {s : State} {m : MethodId} {args : Array Value} {below : List Frame} {meth : Method} {c : Code} (S : SB X 1 p s m args meth c cX10_back 2 (some .boolean) RX10) {M : Mm} {N : Mm} {r : Bool} {v1 : Int32} {x : (Mm × Int32) ⊕ Mm}  (he : f_X10_back_L16 M v1 = some x) (hc : ∀ b, x = .inl b → Z X 1 p l e rm_X10_back s m args below meth c 0 0 (MQ below (QI X 1 (bI r) N s.heap.size) args s 0 0 (AA X 1 s.heap.size)) 2 b.1 16 [(0, .ref (X.2.2 109)), (1, .int b.2)] []) (hx : ∀ b, x = .inr b → Z X 1 p l e rm_X10_back s m args below meth c 0 0 (MQ below (QI X 1 (bI r) N s.heap.size) args s 0 0 (AA X 1 s.heap.size)) 2 b 41 [(0, .ref (X.2.2 109))] []) : Z X 1 p l e rm_X10_back s m args below meth c 0 0 (MQ below (QI X 1 (bI r) N s.heap.size) args s 0 0 (AA X 1 s.heap.size)) 2 M 16 [(0, .ref (X.2.2 109)), (1, .int v1)] [] := by
  unfold f_X10_back_L16 at he
  refine z_iload_n S dX10_back_16 rfl 1 rfl ?_
  refine z_sipush (v := 807) S dX10_back_17 (by decide) ?_
  refine z_icmp_ge (tgt := 41) S he dX10_back_20 (by decide) (fun he => ?_) (fun he => ?_)
  · refine z_lv (ks := [0]) rfl ?_
    exact hx _ (Option.some.inj he).symm
  · refine z_aload_n S dX10_back_23 rfl 0 rfl ?_
    refine z_getF (j := 110) S fo_RX10_7 1 rfl rfl ok_109 dX10_back_24 ?_
    refine z_iload_n S dX10_back_27 rfl 1 rfl ?_
    refine z_aload_n S dX10_back_28 rfl 0 rfl ?_
    refine z_getF (j := 111) S fo_RX10_13 2 rfl rfl ok_109 dX10_back_29 ?_
    refine z_iload_n S dX10_back_32 rfl 1 rfl ?_
    refine z_iald S ok_111 rfl he dX10_back_33 (fun he => ?_)
    refine z_iastb S ok_110 rfl he dX10_back_34 (fun M2 he => ?_)
    refine z_iinc (v := (v1 + 1)) (lv' := [(0, .ref (X.2.2 109)), (1, .int (v1 + 1))]) S [1, 0] 1 dX10_back_35 rfl (by rfl) (by decide) rfl ?_
    refine z_goto (tgt := 16) S dX10_back_38 (by decide) ?_
    refine z_lv (ks := [0, 1]) rfl ?_
    exact hc _ (Option.some.inj he).symm
set_option maxRecDepth 100000 in
set_option maxHeartbeats 4000000 in
theorem K_X10_back {X : Cx} {l : Launch} {M : Mm} {r : Bool} {N : Mm}  (he : f_X10_back M  = some (r, N)) : KI X 1 l yX10_back (wz yX10_back cX10_back 2 (some .boolean)) rm_X10_back [.ref (X.2.2 109)] M (bI r) N := by
  intro sz
  refine K_of (Qc := (fun sz => QI X 1 (bI r) N sz)) (own := RX10) (lv0 := [(0, .ref (X.2.2 109))]) (by decide +kernel) rfl (Nat.le_of_ble_eq_true rfl) rfl (fun p e s m args below meth c S => ?_) sz
  · unfold f_X10_back at he
    refine z_aload_n S dX10_back_0 rfl 0 rfl ?_
    refine z_iconst (v := 0) S dX10_back_1 (by decide) ?_
    refine z_putIb S fo_RX10_63p rfl ok_109 rfl rfl he dX10_back_2 (fun M1 he => ?_)
    refine z_aload_n S dX10_back_5 rfl 0 rfl ?_
    refine z_getI S fo_RX10_351 rfl ok_109 dX10_back_6 ?_
    refine z_if_ne (tgt := 14) S he dX10_back_9 (by decide) (fun he => ?_) (fun he => ?_)
    · refine z_iconst (v := 0) S dX10_back_14 (by decide) ?_
      refine z_istore_n (lv' := [(0, .ref (X.2.2 109)), (1, .int 0)]) S [1, 0] dX10_back_15 rfl (by decide) rfl ?_
      obtain ⟨e_3, hl, he⟩ := bnd he
      have hX : Z X 1 p l e rm_X10_back s m args below meth c 0 0 (MQ below (QI X 1 (bI r) N s.heap.size) args s 0 0 (AA X 1 s.heap.size)) 2 e_3 41 [(0, .ref (X.2.2 109))] [] := by
        refine z_aload_n S dX10_back_41 rfl 0 rfl ?_
        refine z_iconst (v := 0) S dX10_back_42 (by decide) ?_
        refine z_putIb S fo_RX10_184p rfl ok_109 rfl rfl he dX10_back_43 (fun M4 he => ?_)
        refine z_iconst (v := 1) S dX10_back_46 (by decide) ?_
        exact z_zret1 S (Prod.mk.inj (Option.some.inj he)) dX10_back_47
      have hZ9 := loopZ (f := (fun a_3 => f_X10_back_L16 a_3.1 a_3.2)) (Zh := (fun a_3 => Z X 1 p l e rm_X10_back s m args below meth c 0 0 (MQ below (QI X 1 (bI r) N s.heap.size) args s 0 0 (AA X 1 s.heap.size)) 2 a_3.1 16 [(0, .ref (X.2.2 109)), (1, .int a_3.2)] [])) (fun a_3 x hb hc hr => p_X10_back_L16 S  hb hc (fun b hxe => by rw [hr b hxe]; exact hX)) FU (M1, 0) hl
      exact hZ9
    · refine z_iconst (v := 0) S dX10_back_12 (by decide) ?_
      exact z_zret0 S (Prod.mk.inj (Option.some.inj he)) dX10_back_13
set_option maxRecDepth 100000 in
set_option maxHeartbeats 4000000 in
theorem K_X10_begins {X : Cx} {l : Launch} {M : Mm} {N : Mm}  (he : f_X10_begins M  = some N) : KV X 1 l yX10_begins (wz yX10_begins cX10_begins 1 none) rm_X10_begins [.ref (X.2.2 109)] M N := by
  intro sz
  refine K_of (Qc := (fun sz => QV X 1 N sz)) (own := RX10) (lv0 := [(0, .ref (X.2.2 109))]) (by decide +kernel) rfl (Nat.le_of_ble_eq_true rfl) rfl (fun p e s m args below meth c S => ?_) sz
  · unfold f_X10_begins at he
    refine z_aload_n S dX10_begins_0 rfl 0 rfl ?_
    refine z_iconst (v := (-1)) S dX10_begins_1 (by decide) ?_
    refine z_putIb S fo_RX10_25p rfl ok_109 rfl rfl he dX10_begins_2 (fun M1 he => ?_)
    refine z_aload_n S dX10_begins_5 rfl 0 rfl ?_
    refine z_iconst (v := (-1)) S dX10_begins_6 (by decide) ?_
    refine z_putIb S fo_RX10_77p rfl ok_109 rfl rfl he dX10_begins_7 (fun M2 he => ?_)
    refine z_aload_n S dX10_begins_10 rfl 0 rfl ?_
    refine z_aload_n S dX10_begins_11 rfl 0 rfl ?_
    refine z_getI S fo_RX10_74 rfl ok_109 dX10_begins_12 ?_
    refine z_putIb S fo_RX10_83p rfl ok_109 rfl rfl he dX10_begins_15 (fun M3 he => ?_)
    refine z_aload_n S dX10_begins_18 rfl 0 rfl ?_
    refine z_iconst (v := 0) S dX10_begins_19 (by decide) ?_
    refine z_putIb S fo_RX10_74p rfl ok_109 rfl rfl he dX10_begins_20 (fun M4 he => ?_)
    refine z_aload_n S dX10_begins_23 rfl 0 rfl ?_
    refine z_iconst (v := 0) S dX10_begins_24 (by decide) ?_
    refine z_putIb S fo_RX10_80p rfl ok_109 rfl rfl he dX10_begins_25 (fun M5 he => ?_)
    refine z_aload_n S dX10_begins_28 rfl 0 rfl ?_
    refine z_iconst (v := 0) S dX10_begins_29 (by decide) ?_
    refine z_putIb S fo_RX10_158p rfl ok_109 rfl rfl he dX10_begins_30 (fun M6 he => ?_)
    exact z_vret S (Option.some.inj he) dX10_begins_33
set_option maxRecDepth 100000 in
set_option maxHeartbeats 4000000 in
theorem p_X10_bits_L4 {X : Cx} {p : Program} {l : Launch} {e : Env} {s : State} {m : MethodId} {args : Array Value} {below : List Frame} {meth : Method} {c : Code} (S : SB X 1 p s m args meth c cX10_bits 3 (some .int) RX10) {M : Mm} {r : Int32} {v0 : Int32} {v1 : Int32} {v2 : Int32} {x : (Int32 × Int32) ⊕ Int32}  (he : f_X10_bits_L4 M v0 v1 v2 = some x) (hc : ∀ b, x = .inl b → Z X 1 p l e rm_X10_bits s m args below meth c 0 0 (MQ below (QI X 1 r M s.heap.size) args s 0 0 (AA X 1 s.heap.size)) 3 M 4 [(0, .int v0), (1, .int b.1), (2, .int b.2)] []) (hx : ∀ b, x = .inr b → Z X 1 p l e rm_X10_bits s m args below meth c 0 0 (MQ below (QI X 1 r M s.heap.size) args s 0 0 (AA X 1 s.heap.size)) 3 M 24 [(1, .int b)] []) : Z X 1 p l e rm_X10_bits s m args below meth c 0 0 (MQ below (QI X 1 r M s.heap.size) args s 0 0 (AA X 1 s.heap.size)) 3 M 4 [(0, .int v0), (1, .int v1), (2, .int v2)] [] := by
  unfold f_X10_bits_L4 at he
  refine z_iload_n S dX10_bits_4 rfl 2 rfl ?_
  refine z_bipush (v := 31) S dX10_bits_5 (by decide) ?_
  refine z_icmp_ge (tgt := 24) S he dX10_bits_7 (by decide) (fun he => ?_) (fun he => ?_)
  · refine z_lv (ks := [1]) rfl ?_
    exact hx _ (Option.some.inj he).symm
  · refine z_iload_n S dX10_bits_10 rfl 1 rfl ?_
    refine z_iload_n S dX10_bits_11 rfl 0 rfl ?_
    refine z_iload_n S dX10_bits_12 rfl 2 rfl ?_
    refine z_ishr S dX10_bits_13 ?_
    refine z_iconst (v := 1) S dX10_bits_14 (by decide) ?_
    refine z_iand S dX10_bits_15 ?_
    refine z_iadd S dX10_bits_16 ?_
    obtain ⟨x1, ex1, he⟩ := bnd he
    rw [Option.some.inj ex1]
    refine z_istore_n (lv' := [(0, .int v0), (1, .int x1), (2, .int v2)]) S [1, 0, 2] dX10_bits_17 rfl (by decide) rfl ?_
    refine z_iinc (v := (v2 + 1)) (lv' := [(0, .int v0), (1, .int x1), (2, .int (v2 + 1))]) S [1, 2, 0] 2 dX10_bits_18 rfl (by rfl) (by decide) rfl ?_
    refine z_goto (tgt := 4) S dX10_bits_21 (by decide) ?_
    refine z_lv (ks := [0, 1, 2]) rfl ?_
    exact hc _ (Option.some.inj he).symm
set_option maxRecDepth 100000 in
set_option maxHeartbeats 4000000 in
theorem K_X10_bits {X : Cx} {l : Launch} {M : Mm} {a0 : Int32} {r : Int32}  (he : f_X10_bits M a0 = some r) : KI X 1 l yX10_bits (wz yX10_bits cX10_bits 3 (some .int)) rm_X10_bits [.int a0] M r M := by
  intro sz
  refine K_of (Qc := (fun sz => QI X 1 r M sz)) (own := RX10) (lv0 := [(0, .int a0)]) (by decide +kernel) rfl (Nat.le_of_ble_eq_true rfl) rfl (fun p e s m args below meth c S => ?_) sz
  · unfold f_X10_bits at he
    refine z_iconst (v := 0) S dX10_bits_0 (by decide) ?_
    refine z_istore_n (lv' := [(0, .int a0), (1, .int 0)]) S [1, 0] dX10_bits_1 rfl (by decide) rfl ?_
    refine z_iconst (v := 0) S dX10_bits_2 (by decide) ?_
    refine z_istore_n (lv' := [(0, .int a0), (1, .int 0), (2, .int 0)]) S [1, 2, 0] dX10_bits_3 rfl (by decide) rfl ?_
    obtain ⟨e_2, hl, he⟩ := bnd he
    have hX : Z X 1 p l e rm_X10_bits s m args below meth c 0 0 (MQ below (QI X 1 r M s.heap.size) args s 0 0 (AA X 1 s.heap.size)) 3 M 24 [(1, .int e_2)] [] := by
      refine z_iload_n S dX10_bits_24 rfl 0 rfl ?_
      exact z_iret S (⟨Option.some.inj he, rfl⟩) dX10_bits_25
    have hZ9 := loopZ (f := (fun a_2 => f_X10_bits_L4 M a0 a_2.1 a_2.2)) (Zh := (fun a_2 => Z X 1 p l e rm_X10_bits s m args below meth c 0 0 (MQ below (QI X 1 r M s.heap.size) args s 0 0 (AA X 1 s.heap.size)) 3 M 4 [(0, .int a0), (1, .int a_2.1), (2, .int a_2.2)] [])) (fun a_2 x hb hc hr => p_X10_bits_L4 S  hb hc (fun b hxe => by rw [hr b hxe]; exact hX)) FU (0, 0) hl
    exact hZ9
set_option maxRecDepth 100000 in
set_option maxHeartbeats 4000000 in
theorem p_X10_ringing_L4 {X : Cx} {p : Program} {l : Launch} {e : Env} {s : State} {m : MethodId} {args : Array Value} {below : List Frame} {meth : Method} {c : Code} (S : SB X 1 p s m args meth c cX10_ringing 4 (some .int) RX10) {M : Mm} {r : Int32} {v1 : Int32} {v2 : Int32} {v3 : Int32} {x : (Int32 × Int32) ⊕ Int32}  (he : f_X10_ringing_L4 M v1 v2 v3 = some x) (hc : ∀ b, x = .inl b → Z X 1 p l e rm_X10_ringing s m args below meth c 0 0 (MQ below (QI X 1 r M s.heap.size) args s 0 0 (AA X 1 s.heap.size)) 4 M 4 [(0, .ref (X.2.2 109)), (1, .int v1), (2, .int b.1), (3, .int b.2)] []) (hx : ∀ b, x = .inr b → Z X 1 p l e rm_X10_ringing s m args below meth c 0 0 (MQ below (QI X 1 r M s.heap.size) args s 0 0 (AA X 1 s.heap.size)) 4 M 39 [(2, .int b)] []) : Z X 1 p l e rm_X10_ringing s m args below meth c 0 0 (MQ below (QI X 1 r M s.heap.size) args s 0 0 (AA X 1 s.heap.size)) 4 M 4 [(0, .ref (X.2.2 109)), (1, .int v1), (2, .int v2), (3, .int v3)] [] := by
  unfold f_X10_ringing_L4 at he
  refine z_iload_n S dX10_ringing_4 rfl 3 rfl ?_
  refine z_aload_n S dX10_ringing_5 rfl 0 rfl ?_
  refine z_getF (j := 110) S fo_RX10_7 1 rfl rfl ok_109 dX10_ringing_6 ?_
  refine z_iconst (v := 3) S dX10_ringing_9 (by decide) ?_
  refine z_iald S ok_110 rfl he dX10_ringing_10 (fun he => ?_)
  refine z_icmp_ge (tgt := 39) S he dX10_ringing_11 (by decide) (fun he => ?_) (fun he => ?_)
  · refine z_lv (ks := [2]) rfl ?_
    exact hx _ (Option.some.inj he).symm
  · refine z_iload_n S dX10_ringing_14 rfl 2 rfl ?_
    refine z_aload_n S dX10_ringing_15 rfl 0 rfl ?_
    refine z_iload_n S dX10_ringing_16 rfl 3 rfl ?_
    refine z_iload_n S dX10_ringing_17 rfl 1 rfl ?_
    obtain ⟨r1, h9, he⟩ := bnd he
    refine z_cVI (As := [.int v3, .int v1]) S cv_RX10_259 (K_X10_canHave  h9) ok_109 (by decide) (q := (RX10, TX10, 28)) rfl rfl ⟨rfl, rfl⟩ ⟨Nat.le_of_ble_eq_true rfl, Nat.le_of_ble_eq_true rfl⟩ ⟨Nat.le_refl _, Nat.le_refl _⟩ rfl rfl (Nat.le_of_ble_eq_true rfl) dX10_ringing_18 ?_
    refine z_ifb_eq (tgt := 30) S he dX10_ringing_21 (by decide) (fun he => ?_) (fun he => ?_)
    · refine z_iconst (v := 0) S dX10_ringing_30 (by decide) ?_
      refine z_ior S dX10_ringing_31 ?_
      refine z_istore_n (lv' := [(0, .ref (X.2.2 109)), (1, .int v1), (2, .int (v2 ||| 0)), (3, .int v3)]) S [1, 2, 0, 3] dX10_ringing_32 rfl (by decide) rfl ?_
      refine z_iinc (v := (v3 + 1)) (lv' := [(0, .ref (X.2.2 109)), (1, .int v1), (2, .int (v2 ||| 0)), (3, .int (v3 + 1))]) S [1, 2, 3, 0] 3 dX10_ringing_33 rfl (by rfl) (by decide) rfl ?_
      refine z_goto (tgt := 4) S dX10_ringing_36 (by decide) ?_
      refine z_lv (ks := [0, 1, 2, 3]) rfl ?_
      exact hc _ (Option.some.inj he).symm
    · refine z_iconst (v := 1) S dX10_ringing_24 (by decide) ?_
      refine z_iload_n S dX10_ringing_25 rfl 3 rfl ?_
      refine z_ishl S dX10_ringing_26 ?_
      refine z_goto (tgt := 31) S dX10_ringing_27 (by decide) ?_
      refine z_ior S dX10_ringing_31 ?_
      obtain ⟨x2, ex2, he⟩ := bnd he
      rw [Option.some.inj ex2]
      refine z_istore_n (lv' := [(0, .ref (X.2.2 109)), (1, .int v1), (2, .int x2), (3, .int v3)]) S [1, 2, 0, 3] dX10_ringing_32 rfl (by decide) rfl ?_
      refine z_iinc (v := (v3 + 1)) (lv' := [(0, .ref (X.2.2 109)), (1, .int v1), (2, .int x2), (3, .int (v3 + 1))]) S [1, 2, 3, 0] 3 dX10_ringing_33 rfl (by rfl) (by decide) rfl ?_
      refine z_goto (tgt := 4) S dX10_ringing_36 (by decide) ?_
      refine z_lv (ks := [0, 1, 2, 3]) rfl ?_
      exact hc _ (Option.some.inj he).symm
set_option maxRecDepth 100000 in
set_option maxHeartbeats 4000000 in
theorem K_X10_ringing {X : Cx} {l : Launch} {M : Mm} {a1 : Int32} {r : Int32}  (he : f_X10_ringing M a1 = some r) : KI X 1 l yX10_ringing (wz yX10_ringing cX10_ringing 4 (some .int)) rm_X10_ringing [.ref (X.2.2 109), .int a1] M r M := by
  intro sz
  refine K_of (Qc := (fun sz => QI X 1 r M sz)) (own := RX10) (lv0 := [(0, .ref (X.2.2 109)), (1, .int a1)]) (by decide +kernel) rfl (Nat.le_of_ble_eq_true rfl) rfl (fun p e s m args below meth c S => ?_) sz
  · unfold f_X10_ringing at he
    refine z_iconst (v := 0) S dX10_ringing_0 (by decide) ?_
    refine z_istore_n (lv' := [(0, .ref (X.2.2 109)), (1, .int a1), (2, .int 0)]) S [1, 2, 0] dX10_ringing_1 rfl (by decide) rfl ?_
    refine z_iconst (v := 0) S dX10_ringing_2 (by decide) ?_
    refine z_istore_n (lv' := [(0, .ref (X.2.2 109)), (1, .int a1), (2, .int 0), (3, .int 0)]) S [1, 2, 3, 0] dX10_ringing_3 rfl (by decide) rfl ?_
    obtain ⟨e_3, hl, he⟩ := bnd he
    have hX : Z X 1 p l e rm_X10_ringing s m args below meth c 0 0 (MQ below (QI X 1 r M s.heap.size) args s 0 0 (AA X 1 s.heap.size)) 4 M 39 [(2, .int e_3)] [] := by
      refine z_iload_n S dX10_ringing_39 rfl 0 rfl ?_
      exact z_iret S (⟨Option.some.inj he, rfl⟩) dX10_ringing_40
    have hZ9 := loopZ (f := (fun a_3 => f_X10_ringing_L4 M a1 a_3.1 a_3.2)) (Zh := (fun a_3 => Z X 1 p l e rm_X10_ringing s m args below meth c 0 0 (MQ below (QI X 1 r M s.heap.size) args s 0 0 (AA X 1 s.heap.size)) 4 M 4 [(0, .ref (X.2.2 109)), (1, .int a1), (2, .int a_3.1), (3, .int a_3.2)] [])) (fun a_3 x hb hc hr => p_X10_ringing_L4 S  hb hc (fun b hxe => by rw [hr b hxe]; exact hX)) FU (0, 0) hl
    exact hZ9
set_option maxRecDepth 100000 in
set_option maxHeartbeats 4000000 in
theorem p_X10_looks_L6 {X : Cx} {p : Program} {l : Launch} {e : Env} {s : State} {m : MethodId} {args : Array Value} {below : List Frame} {meth : Method} {c : Code} (S : SB X 1 p s m args meth c cX10_looks 2 none RX10) {M : Mm} {N : Mm} {v1 : Int32} {x : (Mm × Int32) ⊕ Mm}  (he : f_X10_looks_L6 M v1 = some x) (hc : ∀ b, x = .inl b → Z X 1 p l e rm_X10_looks s m args below meth c 0 0 (MQ below (QV X 1 N s.heap.size) args s 0 0 (AA X 1 s.heap.size)) 2 b.1 6 [(0, .ref (X.2.2 109)), (1, .int b.2)] []) (hx : ∀ b, x = .inr b → Z X 1 p l e rm_X10_looks s m args below meth c 0 0 (MQ below (QV X 1 N s.heap.size) args s 0 0 (AA X 1 s.heap.size)) 2 b 33 [] []) : Z X 1 p l e rm_X10_looks s m args below meth c 0 0 (MQ below (QV X 1 N s.heap.size) args s 0 0 (AA X 1 s.heap.size)) 2 M 6 [(0, .ref (X.2.2 109)), (1, .int v1)] [] := by
  unfold f_X10_looks_L6 at he
  refine z_iload_n S dX10_looks_6 rfl 1 rfl ?_
  refine z_aload_n S dX10_looks_7 rfl 0 rfl ?_
  refine z_getF (j := 110) S fo_RX10_7 1 rfl rfl ok_109 dX10_looks_8 ?_
  refine z_iconst (v := 4) S dX10_looks_11 (by decide) ?_
  refine z_iald S ok_110 rfl he dX10_looks_12 (fun he => ?_)
  refine z_icmp_ge (tgt := 33) S he dX10_looks_13 (by decide) (fun he => ?_) (fun he => ?_)
  · refine z_lv (ks := []) rfl ?_
    exact hx _ (Option.some.inj he).symm
  · refine z_aload_n S dX10_looks_16 rfl 0 rfl ?_
    refine z_getF (j := 121) S fo_RX10_47 12 rfl rfl ok_109 dX10_looks_17 ?_
    refine z_iload_n S dX10_looks_20 rfl 1 rfl ?_
    refine z_aload_n S dX10_looks_21 rfl 0 rfl ?_
    refine z_iload_n S dX10_looks_22 rfl 1 rfl ?_
    obtain ⟨r2, h9, he⟩ := bnd he
    refine z_cVI (As := [.int v1]) S cv_RX10_303 (K_X10_ringing  h9) ok_109 (by decide) (q := (RX10, TX10, 28)) rfl rfl ⟨rfl, rfl⟩ ⟨Nat.le_of_ble_eq_true rfl, Nat.le_of_ble_eq_true rfl⟩ ⟨Nat.le_refl _, Nat.le_refl _⟩ rfl rfl (Nat.le_of_ble_eq_true rfl) dX10_looks_23 ?_
    refine z_iastb S ok_121 rfl he dX10_looks_26 (fun M3 he => ?_)
    refine z_iinc (v := (v1 + 1)) (lv' := [(0, .ref (X.2.2 109)), (1, .int (v1 + 1))]) S [1, 0] 1 dX10_looks_27 rfl (by rfl) (by decide) rfl ?_
    refine z_goto (tgt := 6) S dX10_looks_30 (by decide) ?_
    refine z_lv (ks := [0, 1]) rfl ?_
    exact hc _ (Option.some.inj he).symm
set_option maxRecDepth 100000 in
set_option maxHeartbeats 4000000 in
theorem K_X10_looks {X : Cx} {l : Launch} {M : Mm} {N : Mm}  (he : f_X10_looks M  = some N) : KV X 1 l yX10_looks (wz yX10_looks cX10_looks 2 none) rm_X10_looks [.ref (X.2.2 109)] M N := by
  intro sz
  refine K_of (Qc := (fun sz => QV X 1 N sz)) (own := RX10) (lv0 := [(0, .ref (X.2.2 109))]) (by decide +kernel) rfl (Nat.le_of_ble_eq_true rfl) rfl (fun p e s m args below meth c S => ?_) sz
  · unfold f_X10_looks at he
    refine z_aload_n S dX10_looks_0 rfl 0 rfl ?_
    obtain ⟨M1, h9, he⟩ := bnd he
    refine z_cVV (As := []) S cv_RX10_272 (K_X10_asks  h9) ok_109 (by decide) (q := (RX10, TX10, 28)) rfl rfl ⟨rfl, rfl⟩ ⟨Nat.le_of_ble_eq_true rfl, Nat.le_of_ble_eq_true rfl⟩ ⟨Nat.le_refl _, Nat.le_refl _⟩ rfl rfl (Nat.le_of_ble_eq_true rfl) dX10_looks_1 ?_
    refine z_iconst (v := 0) S dX10_looks_4 (by decide) ?_
    refine z_istore_n (lv' := [(0, .ref (X.2.2 109)), (1, .int 0)]) S [1, 0] dX10_looks_5 rfl (by decide) rfl ?_
    obtain ⟨e_4, hl, he⟩ := bnd he
    have hX : Z X 1 p l e rm_X10_looks s m args below meth c 0 0 (MQ below (QV X 1 N s.heap.size) args s 0 0 (AA X 1 s.heap.size)) 2 e_4 33 [] [] := by
      exact z_vret S (Option.some.inj he) dX10_looks_33
    have hZ9 := loopZ (f := (fun a_4 => f_X10_looks_L6 a_4.1 a_4.2)) (Zh := (fun a_4 => Z X 1 p l e rm_X10_looks s m args below meth c 0 0 (MQ below (QV X 1 N s.heap.size) args s 0 0 (AA X 1 s.heap.size)) 2 a_4.1 6 [(0, .ref (X.2.2 109)), (1, .int a_4.2)] [])) (fun a_4 x hb hc hr => p_X10_looks_L6 S  hb hc (fun b hxe => by rw [hr b hxe]; exact hX)) FU (M1, 0) hl
    exact hZ9
