set_option maxRecDepth 100000 in
set_option maxHeartbeats 4000000 in
theorem K_X10_isVisitor {X : Cx} {l : Launch} {M : Mm} {a1 : Int32} {r : Bool}  (he : f_X10_isVisitor M a1 = some r) : KI X 1 l yX10_isVisitor (wz yX10_isVisitor cX10_isVisitor 2 (some .boolean)) rm_X10_isVisitor [.ref (X.2.2 200), .int a1] M (bI r) M := by
  intro sz
  refine K_of (Qc := (fun sz => QI X 1 (bI r) M sz)) (own := RX10) (lv0 := [(0, .ref (X.2.2 200)), (1, .int a1)]) (by decide +kernel) rfl (Nat.le_of_ble_eq_true rfl) rfl (fun p e s m args below meth c S => ?_) sz
  · unfold f_X10_isVisitor at he
    refine z_iload_n S dX10_isVisitor_0 rfl 1 rfl ?_
    refine z_iconst (v := 0) S dX10_isVisitor_1 (by decide) ?_
    refine z_aload_n S dX10_isVisitor_2 rfl 0 rfl ?_
    refine z_getF (j := 201) S fo_RX10_7 1 rfl rfl ok_200 dX10_isVisitor_3 ?_
    refine z_iconst (v := 4) S dX10_isVisitor_6 (by decide) ?_
    refine z_iald S ok_201 rfl he dX10_isVisitor_7 (fun he => ?_)
    refine z_iconst (v := 1) S dX10_isVisitor_8 (by decide) ?_
    refine z_isub S dX10_isVisitor_9 ?_
    refine z_cSI (As := [.int a1, .int 0, .int ((gA M 201 4) - 1)]) S cs_RX10_66 (K_X10_isIn  rfl) ⟨rfl, rfl⟩ ⟨Nat.le_of_ble_eq_true rfl, Nat.le_of_ble_eq_true rfl⟩ ⟨Nat.le_refl _, Nat.le_refl _⟩ rfl rfl (Nat.le_of_ble_eq_true rfl) dX10_isVisitor_10 ?_
    exact z_zret S (⟨Option.some.inj he, rfl⟩) dX10_isVisitor_13
set_option maxRecDepth 100000 in
set_option maxHeartbeats 4000000 in
theorem K_X10_ofOne {X : Cx} {l : Launch} {M : Mm} {a1 : Int32} {a2 : Int32} {r : Int32}  (he : f_X10_ofOne M a1 a2 = some r) : KI X 1 l yX10_ofOne (wz yX10_ofOne cX10_ofOne 3 (some .int)) rm_X10_ofOne [.ref (X.2.2 200), .int a1, .int a2] M r M := by
  intro sz
  refine K_of (Qc := (fun sz => QI X 1 r M sz)) (own := RX10) (lv0 := [(0, .ref (X.2.2 200)), (1, .int a1), (2, .int a2)]) (by decide +kernel) rfl (Nat.le_of_ble_eq_true rfl) rfl (fun p e s m args below meth c S => ?_) sz
  · unfold f_X10_ofOne at he
    refine z_aload_n S dX10_ofOne_0 rfl 0 rfl ?_
    refine z_getF (j := 201) S fo_RX10_7 1 rfl rfl ok_200 dX10_ofOne_1 ?_
    refine z_bipush (v := 57) S dX10_ofOne_4 (by decide) ?_
    refine z_iconst (v := 5) S dX10_ofOne_6 (by decide) ?_
    refine z_iload_n S dX10_ofOne_7 rfl 1 rfl ?_
    refine z_imul S dX10_ofOne_8 ?_
    refine z_iadd S dX10_ofOne_9 ?_
    refine z_iload_n S dX10_ofOne_10 rfl 2 rfl ?_
    refine z_iadd S dX10_ofOne_11 ?_
    refine z_iald S ok_201 rfl he dX10_ofOne_12 (fun he => ?_)
    exact z_iret S (⟨Option.some.inj he, rfl⟩) dX10_ofOne_13
set_option maxRecDepth 100000 in
set_option maxHeartbeats 4000000 in
theorem K_X10_of {X : Cx} {l : Launch} {M : Mm} {a1 : Int32} {a2 : Int32} {r : Int32}  (he : f_X10_of M a1 a2 = some r) : KI X 1 l yX10_of (wz yX10_of cX10_of 3 (some .int)) rm_X10_of [.ref (X.2.2 200), .int a1, .int a2] M r M := by
  intro sz
  refine K_of (Qc := (fun sz => QI X 1 r M sz)) (own := RX10) (lv0 := [(0, .ref (X.2.2 200)), (1, .int a1), (2, .int a2)]) (by decide +kernel) rfl (Nat.le_of_ble_eq_true rfl) rfl (fun p e s m args below meth c S => ?_) sz
  · unfold f_X10_of at he
    refine z_aload_n S dX10_of_0 rfl 0 rfl ?_
    refine z_getF (j := 201) S fo_RX10_7 1 rfl rfl ok_200 dX10_of_1 ?_
    refine z_bipush (v := 12) S dX10_of_4 (by decide) ?_
    refine z_iconst (v := 5) S dX10_of_6 (by decide) ?_
    refine z_iload_n S dX10_of_7 rfl 1 rfl ?_
    refine z_imul S dX10_of_8 ?_
    refine z_iadd S dX10_of_9 ?_
    refine z_iload_n S dX10_of_10 rfl 2 rfl ?_
    refine z_iadd S dX10_of_11 ?_
    refine z_iald S ok_201 rfl he dX10_of_12 (fun he => ?_)
    exact z_iret S (⟨Option.some.inj he, rfl⟩) dX10_of_13
set_option maxRecDepth 100000 in
set_option maxHeartbeats 4000000 in
theorem K_X10_letter {X : Cx} {l : Launch} {M : Mm} {a1 : Int32} {r : Int32}  (he : f_X10_letter M a1 = some r) : KI X 1 l yX10_letter (wz yX10_letter cX10_letter 2 (some .int)) rm_X10_letter [.ref (X.2.2 200), .int a1] M r M := by
  intro sz
  refine K_of (Qc := (fun sz => QI X 1 r M sz)) (own := RX10) (lv0 := [(0, .ref (X.2.2 200)), (1, .int a1)]) (by decide +kernel) rfl (Nat.le_of_ble_eq_true rfl) rfl (fun p e s m args below meth c S => ?_) sz
  · unfold f_X10_letter at he
    refine z_aload_n S dX10_letter_0 rfl 0 rfl ?_
    refine z_getI S fo_RX10_77 rfl ok_200 dX10_letter_1 ?_
    refine z_iconst (v := (-1)) S dX10_letter_4 (by decide) ?_
    refine z_icmp_ne (tgt := 17) S he dX10_letter_5 (by decide) (fun he => ?_) (fun he => ?_)
    · refine z_aload_n S dX10_letter_17 rfl 0 rfl ?_
      refine z_getF (j := 201) S fo_RX10_7 1 rfl rfl ok_200 dX10_letter_18 ?_
      refine z_aload_n S dX10_letter_21 rfl 0 rfl ?_
      refine z_getI S fo_RX10_77 rfl ok_200 dX10_letter_22 ?_
      refine z_iload_n S dX10_letter_25 rfl 1 rfl ?_
      refine z_iadd S dX10_letter_26 ?_
      refine z_iald S ok_201 rfl he dX10_letter_27 (fun he => ?_)
      exact z_iret S (⟨Option.some.inj he, rfl⟩) dX10_letter_28
    · refine z_aload_n S dX10_letter_8 rfl 0 rfl ?_
      refine z_getF (j := 205) S fo_RX10_22 5 rfl rfl ok_200 dX10_letter_9 ?_
      refine z_iload_n S dX10_letter_12 rfl 1 rfl ?_
      refine z_iald S ok_205 rfl he dX10_letter_13 (fun he => ?_)
      refine z_goto (tgt := 28) S dX10_letter_14 (by decide) ?_
      exact z_iret S (⟨Option.some.inj he, rfl⟩) dX10_letter_28
set_option maxRecDepth 100000 in
set_option maxHeartbeats 4000000 in
theorem p_X10_skip_L0 {X : Cx} {p : Program} {l : Launch} {e : Env} {s : State} {m : MethodId} {args : Array Value} {below : List Frame} {meth : Method} {c : Code} (S : SB X 1 p s m args meth c cX10_skip 1 none RX10) {M : Mm} {N : Mm} {x : Mm ⊕ Mm}  (he : f_X10_skip_L0 M  = some x) (hc : ∀ b, x = .inl b → Z X 1 p l e rm_X10_skip s m args below meth c 0 0 (MQ below (QV X 1 N s.heap.size) args s 0 0 (AA X 1 s.heap.size)) 1 b 0 [(0, .ref (X.2.2 200))] []) (hx : ∀ b, x = .inr b → Z X 1 p l e rm_X10_skip s m args below meth c 0 0 (MQ below (QV X 1 N s.heap.size) args s 0 0 (AA X 1 s.heap.size)) 1 b 37 [] []) : Z X 1 p l e rm_X10_skip s m args below meth c 0 0 (MQ below (QV X 1 N s.heap.size) args s 0 0 (AA X 1 s.heap.size)) 1 M 0 [(0, .ref (X.2.2 200))] [] := by
  unfold f_X10_skip_L0 at he
  refine z_aload_n S dX10_skip_0 rfl 0 rfl ?_
  refine z_getI S fo_RX10_80 rfl ok_200 dX10_skip_1 ?_
  refine z_aload_n S dX10_skip_4 rfl 0 rfl ?_
  refine z_getI S fo_RX10_83 rfl ok_200 dX10_skip_5 ?_
  refine z_icmp_ge (tgt := 37) S he dX10_skip_8 (by decide) (fun he => ?_) (fun he => ?_)
  · refine z_lv (ks := []) rfl ?_
    exact hx _ (Option.some.inj he).symm
  · refine z_aload_n S dX10_skip_11 rfl 0 rfl ?_
    refine z_aload_n S dX10_skip_12 rfl 0 rfl ?_
    refine z_getI S fo_RX10_80 rfl ok_200 dX10_skip_13 ?_
    obtain ⟨r1, h9, he⟩ := bnd he
    refine z_cVI (As := [.int (gI M 200 11)]) S cv_RX10_86 (K_X10_letter  h9) ok_200 (by decide) (q := (RX10, TX10, 28)) rfl rfl ⟨rfl, rfl⟩ ⟨Nat.le_of_ble_eq_true rfl, Nat.le_of_ble_eq_true rfl⟩ ⟨Nat.le_refl _, Nat.le_refl _⟩ rfl rfl (Nat.le_of_ble_eq_true rfl) dX10_skip_16 ?_
    refine z_bipush (v := 32) S dX10_skip_19 (by decide) ?_
    refine z_icmp_ne (tgt := 37) S he dX10_skip_21 (by decide) (fun he => ?_) (fun he => ?_)
    · refine z_lv (ks := []) rfl ?_
      exact hx _ (Option.some.inj he).symm
    · refine z_aload_n S dX10_skip_24 rfl 0 rfl ?_
      refine z_dup S rfl dX10_skip_25 ?_
      refine z_getI S fo_RX10_80 rfl ok_200 dX10_skip_26 ?_
      refine z_iconst (v := 1) S dX10_skip_29 (by decide) ?_
      refine z_iadd S dX10_skip_30 ?_
      refine z_putIb S fo_RX10_80p rfl ok_200 rfl rfl he dX10_skip_31 (fun M2 he => ?_)
      refine z_goto (tgt := 0) S dX10_skip_34 (by decide) ?_
      refine z_lv (ks := [0]) rfl ?_
      exact hc _ (Option.some.inj he).symm
set_option maxRecDepth 100000 in
set_option maxHeartbeats 4000000 in
theorem K_X10_skip {X : Cx} {l : Launch} {M : Mm} {N : Mm}  (he : f_X10_skip M  = some N) : KV X 1 l yX10_skip (wz yX10_skip cX10_skip 1 none) rm_X10_skip [.ref (X.2.2 200)] M N := by
  intro sz
  refine K_of (Qc := (fun sz => QV X 1 N sz)) (own := RX10) (lv0 := [(0, .ref (X.2.2 200))]) (by decide +kernel) rfl (Nat.le_of_ble_eq_true rfl) rfl (fun p e s m args below meth c S => ?_) sz
  · unfold f_X10_skip at he
    obtain ⟨e_3, hl, he⟩ := bnd he
    have hX : Z X 1 p l e rm_X10_skip s m args below meth c 0 0 (MQ below (QV X 1 N s.heap.size) args s 0 0 (AA X 1 s.heap.size)) 1 e_3 37 [] [] := by
      exact z_vret S (Option.some.inj he) dX10_skip_37
    exact loopZ (Zh := (fun a_3 => Z X 1 p l e rm_X10_skip s m args below meth c 0 0 (MQ below (QV X 1 N s.heap.size) args s 0 0 (AA X 1 s.heap.size)) 1 a_3 0 [(0, .ref (X.2.2 200))] [])) (fun a_3 x hb hc hr => p_X10_skip_L0 S  hb hc (fun b hxe => by rw [hr b hxe]; exact hX)) FU _ hl
set_option maxRecDepth 100000 in
set_option maxHeartbeats 4000000 in
theorem K_X10_wrong {X : Cx} {l : Launch} {M : Mm} {a1 : Int32} {N : Mm}  (he : f_X10_wrong M a1 = N) : KV X 1 l yX10_wrong (wz yX10_wrong cX10_wrong 2 none) rm_X10_wrong [.ref (X.2.2 200), .int a1] M N := by
  intro sz
  refine K_of (Qc := (fun sz => QV X 1 N sz)) (own := RX10) (lv0 := [(0, .ref (X.2.2 200)), (1, .int a1)]) (by decide +kernel) rfl (Nat.le_of_ble_eq_true rfl) rfl (fun p e s m args below meth c S => ?_) sz
  · unfold f_X10_wrong at he
    refine z_aload_n S dX10_wrong_0 rfl 0 rfl ?_
    refine z_getI S fo_RX10_25 rfl ok_200 dX10_wrong_1 ?_
    refine z_iconst (v := (-1)) S dX10_wrong_4 (by decide) ?_
    refine z_icmp_ne (tgt := 13) S he dX10_wrong_5 (by decide) (fun he => ?_) (fun he => ?_)
    · exact z_vret S (he) dX10_wrong_13
    · refine z_aload_n S dX10_wrong_8 rfl 0 rfl ?_
      refine z_iload_n S dX10_wrong_9 rfl 1 rfl ?_
      refine z_putI S fo_RX10_25p rfl ok_200 rfl rfl dX10_wrong_10 ?_
      exact z_vret S (he) dX10_wrong_13
set_option maxRecDepth 100000 in
set_option maxHeartbeats 4000000 in
theorem K_X10_place {X : Cx} {l : Launch} {M : Mm} {r : Int32} {N : Mm}  (he : f_X10_place M  = some (r, N)) : KI X 1 l yX10_place (wz yX10_place cX10_place 1 (some .int)) rm_X10_place [.ref (X.2.2 200)] M r N := by
  intro sz
  refine K_of (Qc := (fun sz => QI X 1 r N sz)) (own := RX10) (lv0 := [(0, .ref (X.2.2 200))]) (by decide +kernel) rfl (Nat.le_of_ble_eq_true rfl) rfl (fun p e s m args below meth c S => ?_) sz
  · unfold f_X10_place at he
    refine z_aload_n S dX10_place_0 rfl 0 rfl ?_
    obtain ⟨M1, h9, he⟩ := bnd he
    refine z_cVV (As := []) S cv_RX10_90 (K_X10_skip  h9) ok_200 (by decide) (q := (RX10, TX10, 28)) rfl rfl ⟨rfl, rfl⟩ ⟨Nat.le_of_ble_eq_true rfl, Nat.le_of_ble_eq_true rfl⟩ ⟨Nat.le_refl _, Nat.le_refl _⟩ rfl rfl (Nat.le_of_ble_eq_true rfl) dX10_place_1 ?_
    refine z_aload_n S dX10_place_4 rfl 0 rfl ?_
    refine z_getI S fo_RX10_80 rfl ok_200 dX10_place_5 ?_
    exact z_iret S (Prod.mk.inj (Option.some.inj he)) dX10_place_8
set_option maxRecDepth 100000 in
set_option maxHeartbeats 4000000 in
theorem p_X10_figures_L18 {X : Cx} {p : Program} {l : Launch} {e : Env} {s : State} {m : MethodId} {args : Array Value} {below : List Frame} {meth : Method} {c : Code} (S : SB X 1 p s m args meth c cX10_figures 5 (some .int) RX10) {M : Mm} {N : Mm} {r : Int32} {v1 : Int32} {v2 : Int32} {v3 : Int32} {v4 : Int32} {x : (Mm × Int32) ⊕ (Mm × Int32)}  (he : f_X10_figures_L18 M v1 v2 v3 v4 = some x) (hc : ∀ b, x = .inl b → Z X 1 p l e rm_X10_figures s m args below meth c 0 0 (MQ below (QI X 1 r N s.heap.size) args s 0 0 (AA X 1 s.heap.size)) 5 b.1 18 [(0, .ref (X.2.2 200)), (1, .int v1), (2, .int v2), (3, .int v3), (4, .int b.2)] []) (hx : ∀ b, x = .inr b → Z X 1 p l e rm_X10_figures s m args below meth c 0 0 (MQ below (QI X 1 r N s.heap.size) args s 0 0 (AA X 1 s.heap.size)) 5 b.1 89 [(0, .ref (X.2.2 200)), (1, .int v1), (2, .int v2), (3, .int v3), (4, .int b.2)] []) : Z X 1 p l e rm_X10_figures s m args below meth c 0 0 (MQ below (QI X 1 r N s.heap.size) args s 0 0 (AA X 1 s.heap.size)) 5 M 18 [(0, .ref (X.2.2 200)), (1, .int v1), (2, .int v2), (3, .int v3), (4, .int v4)] [] := by
  unfold f_X10_figures_L18 at he
  refine z_aload_n S dX10_figures_18 rfl 0 rfl ?_
  refine z_getI S fo_RX10_80 rfl ok_200 dX10_figures_19 ?_
  refine z_aload_n S dX10_figures_22 rfl 0 rfl ?_
  refine z_getI S fo_RX10_83 rfl ok_200 dX10_figures_23 ?_
  refine z_icmp_ge (tgt := 89) S he dX10_figures_26 (by decide) (fun he => ?_) (fun he => ?_)
  · refine z_lv (ks := [0, 1, 2, 3, 4]) rfl ?_
    exact hx _ (Option.some.inj he).symm
  · refine z_aload_n S dX10_figures_29 rfl 0 rfl ?_
    refine z_aload_n S dX10_figures_30 rfl 0 rfl ?_
    refine z_getI S fo_RX10_80 rfl ok_200 dX10_figures_31 ?_
    obtain ⟨r3, h9, he⟩ := bnd he
    refine z_cVI (As := [.int (gI M 200 11)]) S cv_RX10_86 (K_X10_letter  h9) ok_200 (by decide) (q := (RX10, TX10, 28)) rfl rfl ⟨rfl, rfl⟩ ⟨Nat.le_of_ble_eq_true rfl, Nat.le_of_ble_eq_true rfl⟩ ⟨Nat.le_refl _, Nat.le_refl _⟩ rfl rfl (Nat.le_of_ble_eq_true rfl) dX10_figures_34 ?_
    refine z_bipush (v := 48) S dX10_figures_37 (by decide) ?_
    refine z_bipush (v := 57) S dX10_figures_39 (by decide) ?_
    refine z_cSI (As := [.int r3, .int 48, .int 57]) S cs_RX10_66 (K_X10_isIn  rfl) ⟨rfl, rfl⟩ ⟨Nat.le_of_ble_eq_true rfl, Nat.le_of_ble_eq_true rfl⟩ ⟨Nat.le_refl _, Nat.le_refl _⟩ rfl rfl (Nat.le_of_ble_eq_true rfl) dX10_figures_41 ?_
    refine z_ifb_eq (tgt := 89) S he dX10_figures_44 (by decide) (fun he => ?_) (fun he => ?_)
    · refine z_lv (ks := [0, 1, 2, 3, 4]) rfl ?_
      exact hx _ (Option.some.inj he).symm
    · refine z_aload_n S dX10_figures_47 rfl 0 rfl ?_
      refine z_getI S fo_RX10_80 rfl ok_200 dX10_figures_48 ?_
      refine z_iload_n S dX10_figures_51 rfl 3 rfl ?_
      refine z_isub S dX10_figures_52 ?_
      refine z_iconst (v := 3) S dX10_figures_53 (by decide) ?_
      refine z_icmp_gt (tgt := 89) S he dX10_figures_54 (by decide) (fun he => ?_) (fun he => ?_)
      · refine z_lv (ks := [0, 1, 2, 3, 4]) rfl ?_
        exact hx _ (Option.some.inj he).symm
      · refine z_bipush (v := 10) S dX10_figures_57 (by decide) ?_
        refine z_iload S dX10_figures_59 4 rfl ?_
        refine z_imul S dX10_figures_61 ?_
        refine z_aload_n S dX10_figures_62 rfl 0 rfl ?_
        refine z_aload_n S dX10_figures_63 rfl 0 rfl ?_
        refine z_getI S fo_RX10_80 rfl ok_200 dX10_figures_64 ?_
        obtain ⟨r4, h9, he⟩ := bnd he
        refine z_cVI (As := [.int (gI M 200 11)]) S cv_RX10_86 (K_X10_letter  h9) ok_200 (by decide) (q := (RX10, TX10, 28)) rfl rfl ⟨rfl, rfl⟩ ⟨Nat.le_of_ble_eq_true rfl, Nat.le_of_ble_eq_true rfl⟩ ⟨Nat.le_refl _, Nat.le_refl _⟩ rfl rfl (Nat.le_of_ble_eq_true rfl) dX10_figures_67 ?_
        refine z_iadd S dX10_figures_70 ?_
        refine z_bipush (v := 48) S dX10_figures_71 (by decide) ?_
        refine z_isub S dX10_figures_73 ?_
        refine z_istore (lv' := [(0, .ref (X.2.2 200)), (1, .int v1), (2, .int v2), (3, .int v3), (4, .int (((10 * v4) + r4) - 48))]) S [1, 2, 3, 4, 0] dX10_figures_74 (by decide) rfl ?_
        refine z_aload_n S dX10_figures_76 rfl 0 rfl ?_
        refine z_dup S rfl dX10_figures_77 ?_
        refine z_getI S fo_RX10_80 rfl ok_200 dX10_figures_78 ?_
        refine z_iconst (v := 1) S dX10_figures_81 (by decide) ?_
        refine z_iadd S dX10_figures_82 ?_
        refine z_putIb S fo_RX10_80p rfl ok_200 rfl rfl he dX10_figures_83 (fun M5 he => ?_)
        refine z_goto (tgt := 18) S dX10_figures_86 (by decide) ?_
        refine z_lv (ks := [0, 1, 2, 3, 4]) rfl ?_
        exact hc _ (Option.some.inj he).symm
set_option maxRecDepth 100000 in
set_option maxHeartbeats 4000000 in
theorem p_X10_figures_J119 {X : Cx} {p : Program} {l : Launch} {e : Env} {s : State} {m : MethodId} {args : Array Value} {below : List Frame} {meth : Method} {c : Code} (S : SB X 1 p s m args meth c cX10_figures 5 (some .int) RX10) {M : Mm} {N : Mm} {r : Int32} {v3 : Int32} {v4 : Int32}  (he : f_X10_figures_J119 M v3 v4 = some (r, N)) : Z X 1 p l e rm_X10_figures s m args below meth c 0 0 (MQ below (QI X 1 r N s.heap.size) args s 0 0 (AA X 1 s.heap.size)) 5 M 119 [(0, .ref (X.2.2 200)), (3, .int v3), (4, .int v4)] [] := by
  unfold f_X10_figures_J119 at he
  refine z_aload_n S dX10_figures_119 rfl 0 rfl ?_
  refine z_iload_n S dX10_figures_120 rfl 1 rfl ?_
  obtain ⟨M7, h9, he⟩ := bnd he
  refine z_cVV (As := [.int v3]) S cv_RX10_106 (K_X10_wrong  (Option.some.inj h9)) ok_200 (by decide) (q := (RX10, TX10, 28)) rfl rfl ⟨rfl, rfl⟩ ⟨Nat.le_of_ble_eq_true rfl, Nat.le_of_ble_eq_true rfl⟩ ⟨Nat.le_refl _, Nat.le_refl _⟩ rfl rfl (Nat.le_of_ble_eq_true rfl) dX10_figures_121 ?_
  refine z_iload S dX10_figures_124 2 rfl ?_
  exact z_iret S (Prod.mk.inj (Option.some.inj he)) dX10_figures_126
set_option maxRecDepth 100000 in
set_option maxHeartbeats 4000000 in
theorem K_X10_figures {X : Cx} {l : Launch} {M : Mm} {a1 : Int32} {a2 : Int32} {r : Int32} {N : Mm}  (he : f_X10_figures M a1 a2 = some (r, N)) : KI X 1 l yX10_figures (wz yX10_figures cX10_figures 5 (some .int)) rm_X10_figures [.ref (X.2.2 200), .int a1, .int a2] M r N := by
  intro sz
  refine K_of (Qc := (fun sz => QI X 1 r N sz)) (own := RX10) (lv0 := [(0, .ref (X.2.2 200)), (1, .int a1), (2, .int a2)]) (by decide +kernel) rfl (Nat.le_of_ble_eq_true rfl) rfl (fun p e s m args below meth c S => ?_) sz
  · unfold f_X10_figures at he
    refine z_aload_n S dX10_figures_0 rfl 0 rfl ?_
    refine z_getI S fo_RX10_25 rfl ok_200 dX10_figures_1 ?_
    refine z_iconst (v := (-1)) S dX10_figures_4 (by decide) ?_
    refine z_icmp_eq (tgt := 10) S he dX10_figures_5 (by decide) (fun he => ?_) (fun he => ?_)
    · refine z_aload_n S dX10_figures_10 rfl 0 rfl ?_
      obtain ⟨⟨r1, M2⟩, h9, he⟩ := bnd he
      dsimp only at he
      refine z_cVI (As := []) S cv_RX10_103 (K_X10_place  h9) ok_200 (by decide) (q := (RX10, TX10, 28)) rfl rfl ⟨rfl, rfl⟩ ⟨Nat.le_of_ble_eq_true rfl, Nat.le_of_ble_eq_true rfl⟩ ⟨Nat.le_refl _, Nat.le_refl _⟩ rfl rfl (Nat.le_of_ble_eq_true rfl) dX10_figures_11 ?_
      refine z_istore_n (lv' := [(0, .ref (X.2.2 200)), (1, .int a1), (2, .int a2), (3, .int r1)]) S [1, 2, 3, 0] dX10_figures_14 rfl (by decide) rfl ?_
      refine z_iconst (v := 0) S dX10_figures_15 (by decide) ?_
      refine z_istore (lv' := [(0, .ref (X.2.2 200)), (1, .int a1), (2, .int a2), (3, .int r1), (4, .int 0)]) S [1, 2, 3, 4, 0] dX10_figures_16 (by decide) rfl ?_
      obtain ⟨e_6, hl, he⟩ := bnd he
      have hX : Z X 1 p l e rm_X10_figures s m args below meth c 0 0 (MQ below (QI X 1 r N s.heap.size) args s 0 0 (AA X 1 s.heap.size)) 5 e_6.1 89 [(0, .ref (X.2.2 200)), (1, .int a1), (2, .int a2), (3, .int r1), (4, .int e_6.2)] [] := by
        refine z_aload_n S dX10_figures_89 rfl 0 rfl ?_
        refine z_getI S fo_RX10_80 rfl ok_200 dX10_figures_90 ?_
        refine z_iload_n S dX10_figures_93 rfl 3 rfl ?_
        refine z_icmp_eq (tgt := 119) S he dX10_figures_94 (by decide) (fun he => ?_) (fun he => ?_)
        · refine z_lv (ks := [0, 3, 4]) rfl ?_
          exact p_X10_figures_J119 S  he
        · refine z_aload_n S dX10_figures_97 rfl 0 rfl ?_
          refine z_getI S fo_RX10_80 rfl ok_200 dX10_figures_98 ?_
          refine z_iload_n S dX10_figures_101 rfl 3 rfl ?_
          refine z_isub S dX10_figures_102 ?_
          refine z_iconst (v := 3) S dX10_figures_103 (by decide) ?_
          refine z_icmp_gt (tgt := 119) S he dX10_figures_104 (by decide) (fun he => ?_) (fun he => ?_)
          · refine z_lv (ks := [0, 3, 4]) rfl ?_
            exact p_X10_figures_J119 S  he
          · refine z_iload S dX10_figures_107 4 rfl ?_
            refine z_iload_n S dX10_figures_109 rfl 1 rfl ?_
            refine z_icmp_lt (tgt := 119) S he dX10_figures_110 (by decide) (fun he => ?_) (fun he => ?_)
            · refine z_lv (ks := [0, 3, 4]) rfl ?_
              exact p_X10_figures_J119 S  he
            · refine z_iload S dX10_figures_113 4 rfl ?_
              refine z_iload_n S dX10_figures_115 rfl 2 rfl ?_
              refine z_icmp_le (tgt := 124) S he dX10_figures_116 (by decide) (fun he => ?_) (fun he => ?_)
              · refine z_iload S dX10_figures_124 4 rfl ?_
                exact z_iret S (Prod.mk.inj (Option.some.inj he)) dX10_figures_126
              · refine z_lv (ks := [0, 3, 4]) rfl ?_
                exact p_X10_figures_J119 S  he
      exact loopZ (Zh := (fun a_6 => Z X 1 p l e rm_X10_figures s m args below meth c 0 0 (MQ below (QI X 1 r N s.heap.size) args s 0 0 (AA X 1 s.heap.size)) 5 a_6.1 18 [(0, .ref (X.2.2 200)), (1, .int a1), (2, .int a2), (3, .int r1), (4, .int a_6.2)] [])) (fun a_6 x hb hc hr => p_X10_figures_L18 S  hb hc (fun b hxe => by rw [hr b hxe]; exact hX)) FU _ hl
    · refine z_iconst (v := 0) S dX10_figures_8 (by decide) ?_
      exact z_iret S (Prod.mk.inj (Option.some.inj he)) dX10_figures_9
set_option maxRecDepth 100000 in
set_option maxHeartbeats 4000000 in
theorem K_X10_isSign {X : Cx} {l : Launch} {M : Mm} {a1 : Int32} {r : Bool} {N : Mm}  (he : f_X10_isSign M a1 = some (r, N)) : KI X 1 l yX10_isSign (wz yX10_isSign cX10_isSign 2 (some .boolean)) rm_X10_isSign [.ref (X.2.2 200), .int a1] M (bI r) N := by
  intro sz
  refine K_of (Qc := (fun sz => QI X 1 (bI r) N sz)) (own := RX10) (lv0 := [(0, .ref (X.2.2 200)), (1, .int a1)]) (by decide +kernel) rfl (Nat.le_of_ble_eq_true rfl) rfl (fun p e s m args below meth c S => ?_) sz
  · unfold f_X10_isSign at he
    refine z_aload_n S dX10_isSign_0 rfl 0 rfl ?_
    obtain ⟨M1, h9, he⟩ := bnd he
    refine z_cVV (As := []) S cv_RX10_90 (K_X10_skip  h9) ok_200 (by decide) (q := (RX10, TX10, 28)) rfl rfl ⟨rfl, rfl⟩ ⟨Nat.le_of_ble_eq_true rfl, Nat.le_of_ble_eq_true rfl⟩ ⟨Nat.le_refl _, Nat.le_refl _⟩ rfl rfl (Nat.le_of_ble_eq_true rfl) dX10_isSign_1 ?_
    refine z_aload_n S dX10_isSign_4 rfl 0 rfl ?_
    refine z_getI S fo_RX10_80 rfl ok_200 dX10_isSign_5 ?_
    refine z_aload_n S dX10_isSign_8 rfl 0 rfl ?_
    refine z_getI S fo_RX10_83 rfl ok_200 dX10_isSign_9 ?_
    refine z_icmp_ge (tgt := 31) S he dX10_isSign_12 (by decide) (fun he => ?_) (fun he => ?_)
    · refine z_iconst (v := 0) S dX10_isSign_31 (by decide) ?_
      exact z_zret0 S (Prod.mk.inj (Option.some.inj he)) dX10_isSign_32
    · refine z_aload_n S dX10_isSign_15 rfl 0 rfl ?_
      refine z_aload_n S dX10_isSign_16 rfl 0 rfl ?_
      refine z_getI S fo_RX10_80 rfl ok_200 dX10_isSign_17 ?_
      obtain ⟨r2, h9, he⟩ := bnd he
      refine z_cVI (As := [.int (gI M1 200 11)]) S cv_RX10_86 (K_X10_letter  h9) ok_200 (by decide) (q := (RX10, TX10, 28)) rfl rfl ⟨rfl, rfl⟩ ⟨Nat.le_of_ble_eq_true rfl, Nat.le_of_ble_eq_true rfl⟩ ⟨Nat.le_refl _, Nat.le_refl _⟩ rfl rfl (Nat.le_of_ble_eq_true rfl) dX10_isSign_20 ?_
      refine z_iload_n S dX10_isSign_23 rfl 1 rfl ?_
      refine z_icmp_ne (tgt := 31) S he dX10_isSign_24 (by decide) (fun he => ?_) (fun he => ?_)
      · refine z_iconst (v := 0) S dX10_isSign_31 (by decide) ?_
        exact z_zret0 S (Prod.mk.inj (Option.some.inj he)) dX10_isSign_32
      · refine z_iconst (v := 1) S dX10_isSign_27 (by decide) ?_
        refine z_goto (tgt := 32) S dX10_isSign_28 (by decide) ?_
        exact z_zret1 S (Prod.mk.inj (Option.some.inj he)) dX10_isSign_32
set_option maxRecDepth 100000 in
set_option maxHeartbeats 4000000 in
theorem K_X10_isOf {X : Cx} {l : Launch} {M : Mm} {a0 : Int32} {a1 : Int32} {r : Bool}  (he : f_X10_isOf M a0 a1 = r) : KI X 1 l yX10_isOf (wz yX10_isOf cX10_isOf 2 (some .boolean)) rm_X10_isOf [.int a0, .int a1] M (bI r) M := by
  intro sz
  refine K_of (Qc := (fun sz => QI X 1 (bI r) M sz)) (own := RX10) (lv0 := [(0, .int a0), (1, .int a1)]) (by decide +kernel) rfl (Nat.le_of_ble_eq_true rfl) rfl (fun p e s m args below meth c S => ?_) sz
  · unfold f_X10_isOf at he
    refine z_iload_n S dX10_isOf_0 rfl 0 rfl ?_
    refine z_iload_n S dX10_isOf_1 rfl 1 rfl ?_
    refine z_ishr S dX10_isOf_2 ?_
    refine z_iconst (v := 1) S dX10_isOf_3 (by decide) ?_
    refine z_iand S dX10_isOf_4 ?_
    refine z_iconst (v := 1) S dX10_isOf_5 (by decide) ?_
    refine z_icmp_ne (tgt := 13) S he dX10_isOf_6 (by decide) (fun he => ?_) (fun he => ?_)
    · refine z_iconst (v := 0) S dX10_isOf_13 (by decide) ?_
      exact z_zret0 S (⟨he, rfl⟩) dX10_isOf_14
    · refine z_iconst (v := 1) S dX10_isOf_9 (by decide) ?_
      refine z_goto (tgt := 14) S dX10_isOf_10 (by decide) ?_
      exact z_zret1 S (⟨he, rfl⟩) dX10_isOf_14
set_option maxRecDepth 100000 in
set_option maxHeartbeats 4000000 in
theorem p_X10_thingAt_L2 {X : Cx} {p : Program} {l : Launch} {e : Env} {s : State} {m : MethodId} {args : Array Value} {below : List Frame} {meth : Method} {c : Code} (S : SB X 1 p s m args meth c cX10_thingAt 3 (some .int) RX10) {M : Mm} {r : Int32} {v1 : Int32} {v2 : Int32} {x : Int32 ⊕ ((Int32) ⊕ Unit)}  (he : f_X10_thingAt_L2 M v1 v2 = some x) (hc : ∀ b, x = .inl b → Z X 1 p l e rm_X10_thingAt s m args below meth c 0 0 (MQ below (QI X 1 r M s.heap.size) args s 0 0 (AA X 1 s.heap.size)) 3 M 2 [(0, .ref (X.2.2 200)), (1, .int v1), (2, .int b)] []) (hx : ∀ b, x = .inr (.inr b) → Z X 1 p l e rm_X10_thingAt s m args below meth c 0 0 (MQ below (QI X 1 r M s.heap.size) args s 0 0 (AA X 1 s.heap.size)) 3 M 30 [] []) (hr : ∀ v, x = .inr (.inl v) → v = r) : Z X 1 p l e rm_X10_thingAt s m args below meth c 0 0 (MQ below (QI X 1 r M s.heap.size) args s 0 0 (AA X 1 s.heap.size)) 3 M 2 [(0, .ref (X.2.2 200)), (1, .int v1), (2, .int v2)] [] := by
  unfold f_X10_thingAt_L2 at he
  refine z_iload_n S dX10_thingAt_2 rfl 2 rfl ?_
  refine z_aload_n S dX10_thingAt_3 rfl 0 rfl ?_
  refine z_getF (j := 201) S fo_RX10_7 1 rfl rfl ok_200 dX10_thingAt_4 ?_
  refine z_iconst (v := 3) S dX10_thingAt_7 (by decide) ?_
  refine z_iald S ok_201 rfl he dX10_thingAt_8 (fun he => ?_)
  refine z_icmp_ge (tgt := 30) S he dX10_thingAt_9 (by decide) (fun he => ?_) (fun he => ?_)
  · refine z_lv (ks := []) rfl ?_
    exact hx _ (Option.some.inj he).symm
  · refine z_aload_n S dX10_thingAt_12 rfl 0 rfl ?_
    refine z_iload_n S dX10_thingAt_13 rfl 2 rfl ?_
    refine z_iconst (v := 0) S dX10_thingAt_14 (by decide) ?_
    obtain ⟨r1, h9, he⟩ := bnd he
    refine z_cVI (As := [.int v2, .int 0]) S cv_RX10_70 (K_X10_of  h9) ok_200 (by decide) (q := (RX10, TX10, 28)) rfl rfl ⟨rfl, rfl⟩ ⟨Nat.le_of_ble_eq_true rfl, Nat.le_of_ble_eq_true rfl⟩ ⟨Nat.le_refl _, Nat.le_refl _⟩ rfl rfl (Nat.le_of_ble_eq_true rfl) dX10_thingAt_15 ?_
    refine z_iload_n S dX10_thingAt_18 rfl 1 rfl ?_
    refine z_icmp_ne (tgt := 24) S he dX10_thingAt_19 (by decide) (fun he => ?_) (fun he => ?_)
    · refine z_iinc (v := (v2 + 1)) (lv' := [(0, .ref (X.2.2 200)), (1, .int v1), (2, .int (v2 + 1))]) S [1, 2, 0] 2 dX10_thingAt_24 rfl (by rfl) (by decide) rfl ?_
      refine z_goto (tgt := 2) S dX10_thingAt_27 (by decide) ?_
      refine z_lv (ks := [0, 1, 2]) rfl ?_
      exact hc _ (Option.some.inj he).symm
    · refine z_iload_n S dX10_thingAt_22 rfl 2 rfl ?_
      exact z_iret S (⟨hr _ (Option.some.inj he).symm, rfl⟩) dX10_thingAt_23
set_option maxRecDepth 100000 in
set_option maxHeartbeats 4000000 in
theorem K_X10_thingAt {X : Cx} {l : Launch} {M : Mm} {a1 : Int32} {r : Int32}  (he : f_X10_thingAt M a1 = some r) : KI X 1 l yX10_thingAt (wz yX10_thingAt cX10_thingAt 3 (some .int)) rm_X10_thingAt [.ref (X.2.2 200), .int a1] M r M := by
  intro sz
  refine K_of (Qc := (fun sz => QI X 1 r M sz)) (own := RX10) (lv0 := [(0, .ref (X.2.2 200)), (1, .int a1)]) (by decide +kernel) rfl (Nat.le_of_ble_eq_true rfl) rfl (fun p e s m args below meth c S => ?_) sz
  · unfold f_X10_thingAt at he
    refine z_iconst (v := 0) S dX10_thingAt_0 (by decide) ?_
    refine z_istore_n (lv' := [(0, .ref (X.2.2 200)), (1, .int a1), (2, .int 0)]) S [1, 2, 0] dX10_thingAt_1 rfl (by decide) rfl ?_
    obtain ⟨r9, hl, hr1, hr2⟩ := bndS he
    have hX : ∀ e_2, r9 = .inr e_2 → Z X 1 p l e rm_X10_thingAt s m args below meth c 0 0 (MQ below (QI X 1 r M s.heap.size) args s 0 0 (AA X 1 s.heap.size)) 3 M 30 [] [] := by
      intro e_2 hre
      have he := hr2 e_2 hre
      refine z_iconst (v := (-1)) S dX10_thingAt_30 (by decide) ?_
      exact z_iret S (⟨Option.some.inj he, rfl⟩) dX10_thingAt_31
    exact loopZ (Zh := (fun a_2 => Z X 1 p l e rm_X10_thingAt s m args below meth c 0 0 (MQ below (QI X 1 r M s.heap.size) args s 0 0 (AA X 1 s.heap.size)) 3 M 2 [(0, .ref (X.2.2 200)), (1, .int a1), (2, .int a_2)] [])) (fun a_2 x hb hc hr9 => p_X10_thingAt_L2 S  hb hc (fun b hxe => hX b (hr9 _ hxe).symm) (fun v hxv => Option.some.inj (hr1 v (hr9 _ hxv).symm))) FU _ hl
set_option maxRecDepth 100000 in
set_option maxHeartbeats 4000000 in
theorem p_X10_marks_J9_88 {X : Cx} {p : Program} {l : Launch} {e : Env} {s : State} {m : MethodId} {args : Array Value} {below : List Frame} {meth : Method} {c : Code} (S : SB X 1 p s m args meth c cX10_marks 5 (some .int) RX10) {M : Mm} {N : Mm} {r : Int32} {v1 : Int32} {v2 : Int32} {v3 : Int32} {x : (Mm × Int32 × Int32) ⊕ (Mm × Int32 × Int32)}  (he : f_X10_marks_J9_88 M v1 v2 v3 = some x) (hc : ∀ b, x = .inl b → Z X 1 p l e rm_X10_marks s m args below meth c 0 0 (MQ below (QI X 1 r N s.heap.size) args s 0 0 (AA X 1 s.heap.size)) 5 b.1 9 [(0, .ref (X.2.2 200)), (1, .int v1), (2, .int b.2.1), (3, .int b.2.2)] []) (hx : ∀ b, x = .inr b → Z X 1 p l e rm_X10_marks s m args below meth c 0 0 (MQ below (QI X 1 r N s.heap.size) args s 0 0 (AA X 1 s.heap.size)) 5 b.1 101 [(0, .ref (X.2.2 200)), (1, .int v1), (2, .int b.2.1), (3, .int b.2.2)] []) : Z X 1 p l e rm_X10_marks s m args below meth c 0 0 (MQ below (QI X 1 r N s.heap.size) args s 0 0 (AA X 1 s.heap.size)) 5 M 88 [(0, .ref (X.2.2 200)), (1, .int v1), (2, .int v2), (3, .int v3)] [] := by
  unfold f_X10_marks_J9_88 at he
  refine z_aload_n S dX10_marks_88 rfl 0 rfl ?_
  refine z_dup S rfl dX10_marks_89 ?_
  refine z_getI S fo_RX10_80 rfl ok_200 dX10_marks_90 ?_
  refine z_iconst (v := 1) S dX10_marks_93 (by decide) ?_
  refine z_iadd S dX10_marks_94 ?_
  refine z_putIb S fo_RX10_80p rfl ok_200 rfl rfl he dX10_marks_95 (fun M5 he => ?_)
  refine z_goto (tgt := 9) S dX10_marks_98 (by decide) ?_
  refine z_lv (ks := [0, 1, 2, 3]) rfl ?_
  exact hc _ (Option.some.inj he).symm
set_option maxRecDepth 100000 in
set_option maxHeartbeats 4000000 in
theorem p_X10_marks_J9_76 {X : Cx} {p : Program} {l : Launch} {e : Env} {s : State} {m : MethodId} {args : Array Value} {below : List Frame} {meth : Method} {c : Code} (S : SB X 1 p s m args meth c cX10_marks 5 (some .int) RX10) {M : Mm} {N : Mm} {r : Int32} {v1 : Int32} {v2 : Int32} {v4 : Int32} {t0 : Int32} {x : (Mm × Int32 × Int32) ⊕ (Mm × Int32 × Int32)}  (he : f_X10_marks_J9_76 M v1 v2 v4 t0 = some x) (hc : ∀ b, x = .inl b → Z X 1 p l e rm_X10_marks s m args below meth c 0 0 (MQ below (QI X 1 r N s.heap.size) args s 0 0 (AA X 1 s.heap.size)) 5 b.1 9 [(0, .ref (X.2.2 200)), (1, .int v1), (2, .int b.2.1), (3, .int b.2.2)] []) (hx : ∀ b, x = .inr b → Z X 1 p l e rm_X10_marks s m args below meth c 0 0 (MQ below (QI X 1 r N s.heap.size) args s 0 0 (AA X 1 s.heap.size)) 5 b.1 101 [(0, .ref (X.2.2 200)), (1, .int v1), (2, .int b.2.1), (3, .int b.2.2)] []) : Z X 1 p l e rm_X10_marks s m args below meth c 0 0 (MQ below (QI X 1 r N s.heap.size) args s 0 0 (AA X 1 s.heap.size)) 5 M 76 [(0, .ref (X.2.2 200)), (1, .int v1), (2, .int v2), (4, .int v4)] [.int t0] := by
  unfold f_X10_marks_J9_76 at he
  refine z_istore_n (lv' := [(0, .ref (X.2.2 200)), (1, .int v1), (2, .int v2), (3, .int t0), (4, .int v4)]) S [1, 2, 3, 0, 4] dX10_marks_76 rfl (by decide) rfl ?_
  refine z_iload_n S dX10_marks_77 rfl 3 rfl ?_
  refine z_if_eq (tgt := 88) S he dX10_marks_78 (by decide) (fun he => ?_) (fun he => ?_)
  · refine z_lv (ks := [0, 1, 2, 3]) rfl ?_
    exact p_X10_marks_J9_88 S  he hc hx
  · refine z_iload_n S dX10_marks_81 rfl 2 rfl ?_
    refine z_iconst (v := 1) S dX10_marks_82 (by decide) ?_
    refine z_iload S dX10_marks_83 4 rfl ?_
    refine z_ishl S dX10_marks_85 ?_
    refine z_ior S dX10_marks_86 ?_
    obtain ⟨x6, ex6, he⟩ := bnd he
    rw [Option.some.inj ex6]
    refine z_istore_n (lv' := [(0, .ref (X.2.2 200)), (1, .int v1), (2, .int x6), (3, .int t0)]) S [1, 2, 0, 3] dX10_marks_87 rfl (by decide) rfl ?_
    exact p_X10_marks_J9_88 S  he hc hx
set_option maxRecDepth 100000 in
set_option maxHeartbeats 4000000 in
theorem p_X10_marks_J9_75 {X : Cx} {p : Program} {l : Launch} {e : Env} {s : State} {m : MethodId} {args : Array Value} {below : List Frame} {meth : Method} {c : Code} (S : SB X 1 p s m args meth c cX10_marks 5 (some .int) RX10) {M : Mm} {N : Mm} {r : Int32} {v1 : Int32} {v2 : Int32} {v4 : Int32} {x : (Mm × Int32 × Int32) ⊕ (Mm × Int32 × Int32)}  (he : f_X10_marks_J9_75 M v1 v2 v4 = some x) (hc : ∀ b, x = .inl b → Z X 1 p l e rm_X10_marks s m args below meth c 0 0 (MQ below (QI X 1 r N s.heap.size) args s 0 0 (AA X 1 s.heap.size)) 5 b.1 9 [(0, .ref (X.2.2 200)), (1, .int v1), (2, .int b.2.1), (3, .int b.2.2)] []) (hx : ∀ b, x = .inr b → Z X 1 p l e rm_X10_marks s m args below meth c 0 0 (MQ below (QI X 1 r N s.heap.size) args s 0 0 (AA X 1 s.heap.size)) 5 b.1 101 [(0, .ref (X.2.2 200)), (1, .int v1), (2, .int b.2.1), (3, .int b.2.2)] []) : Z X 1 p l e rm_X10_marks s m args below meth c 0 0 (MQ below (QI X 1 r N s.heap.size) args s 0 0 (AA X 1 s.heap.size)) 5 M 75 [(0, .ref (X.2.2 200)), (1, .int v1), (2, .int v2), (4, .int v4)] [] := by
  unfold f_X10_marks_J9_75 at he
  refine z_iconst (v := 0) S dX10_marks_75 (by decide) ?_
  exact p_X10_marks_J9_76 S  he hc hx
set_option maxRecDepth 100000 in
set_option maxHeartbeats 4000000 in
theorem p_X10_marks_L9 {X : Cx} {p : Program} {l : Launch} {e : Env} {s : State} {m : MethodId} {args : Array Value} {below : List Frame} {meth : Method} {c : Code} (S : SB X 1 p s m args meth c cX10_marks 5 (some .int) RX10) {M : Mm} {N : Mm} {r : Int32} {v1 : Int32} {v2 : Int32} {v3 : Int32} {x : (Mm × Int32 × Int32) ⊕ (Mm × Int32 × Int32)}  (he : f_X10_marks_L9 M v1 v2 v3 = some x) (hc : ∀ b, x = .inl b → Z X 1 p l e rm_X10_marks s m args below meth c 0 0 (MQ below (QI X 1 r N s.heap.size) args s 0 0 (AA X 1 s.heap.size)) 5 b.1 9 [(0, .ref (X.2.2 200)), (1, .int v1), (2, .int b.2.1), (3, .int b.2.2)] []) (hx : ∀ b, x = .inr b → Z X 1 p l e rm_X10_marks s m args below meth c 0 0 (MQ below (QI X 1 r N s.heap.size) args s 0 0 (AA X 1 s.heap.size)) 5 b.1 101 [(0, .ref (X.2.2 200)), (1, .int v1), (2, .int b.2.1), (3, .int b.2.2)] []) : Z X 1 p l e rm_X10_marks s m args below meth c 0 0 (MQ below (QI X 1 r N s.heap.size) args s 0 0 (AA X 1 s.heap.size)) 5 M 9 [(0, .ref (X.2.2 200)), (1, .int v1), (2, .int v2), (3, .int v3)] [] := by
  unfold f_X10_marks_L9 at he
  refine z_aload_n S dX10_marks_9 rfl 0 rfl ?_
  refine z_getI S fo_RX10_80 rfl ok_200 dX10_marks_10 ?_
  refine z_aload_n S dX10_marks_13 rfl 0 rfl ?_
  refine z_getI S fo_RX10_83 rfl ok_200 dX10_marks_14 ?_
  refine z_icmp_ge (tgt := 101) S he dX10_marks_17 (by decide) (fun he => ?_) (fun he => ?_)
  · refine z_lv (ks := [0, 1, 2, 3]) rfl ?_
    exact hx _ (Option.some.inj he).symm
  · refine z_aload_n S dX10_marks_20 rfl 0 rfl ?_
    refine z_aload_n S dX10_marks_21 rfl 0 rfl ?_
    refine z_getI S fo_RX10_80 rfl ok_200 dX10_marks_22 ?_
    obtain ⟨r3, h9, he⟩ := bnd he
    refine z_cVI (As := [.int (gI M 200 11)]) S cv_RX10_86 (K_X10_letter  h9) ok_200 (by decide) (q := (RX10, TX10, 28)) rfl rfl ⟨rfl, rfl⟩ ⟨Nat.le_of_ble_eq_true rfl, Nat.le_of_ble_eq_true rfl⟩ ⟨Nat.le_refl _, Nat.le_refl _⟩ rfl rfl (Nat.le_of_ble_eq_true rfl) dX10_marks_25 ?_
    refine z_bipush (v := 97) S dX10_marks_28 (by decide) ?_
    refine z_bipush (v := 122) S dX10_marks_30 (by decide) ?_
    refine z_cSI (As := [.int r3, .int 97, .int 122]) S cs_RX10_66 (K_X10_isIn  rfl) ⟨rfl, rfl⟩ ⟨Nat.le_of_ble_eq_true rfl, Nat.le_of_ble_eq_true rfl⟩ ⟨Nat.le_refl _, Nat.le_refl _⟩ rfl rfl (Nat.le_of_ble_eq_true rfl) dX10_marks_32 ?_
    refine z_ifb_eq (tgt := 101) S he dX10_marks_35 (by decide) (fun he => ?_) (fun he => ?_)
    · refine z_lv (ks := [0, 1, 2, 3]) rfl ?_
      exact hx _ (Option.some.inj he).symm
    · refine z_aload_n S dX10_marks_38 rfl 0 rfl ?_
      refine z_aload_n S dX10_marks_39 rfl 0 rfl ?_
      refine z_getI S fo_RX10_80 rfl ok_200 dX10_marks_40 ?_
      obtain ⟨r4, h9, he⟩ := bnd he
      refine z_cVI (As := [.int (gI M 200 11)]) S cv_RX10_86 (K_X10_letter  h9) ok_200 (by decide) (q := (RX10, TX10, 28)) rfl rfl ⟨rfl, rfl⟩ ⟨Nat.le_of_ble_eq_true rfl, Nat.le_of_ble_eq_true rfl⟩ ⟨Nat.le_refl _, Nat.le_refl _⟩ rfl rfl (Nat.le_of_ble_eq_true rfl) dX10_marks_43 ?_
      refine z_bipush (v := 97) S dX10_marks_46 (by decide) ?_
      refine z_isub S dX10_marks_48 ?_
      refine z_istore (lv' := [(0, .ref (X.2.2 200)), (1, .int v1), (2, .int v2), (3, .int v3), (4, .int (r4 - 97))]) S [1, 2, 3, 4, 0] dX10_marks_49 (by decide) rfl ?_
      refine z_iload_n S dX10_marks_51 rfl 3 rfl ?_
      refine z_if_eq (tgt := 75) S he dX10_marks_52 (by decide) (fun he => ?_) (fun he => ?_)
      · refine z_lv (ks := [0, 1, 2, 4]) rfl ?_
        exact p_X10_marks_J9_75 S  he hc hx
      · refine z_iload S dX10_marks_55 4 rfl ?_
        refine z_bipush (v := 6) S dX10_marks_57 (by decide) ?_
        refine z_icmp_ge (tgt := 75) S he dX10_marks_59 (by decide) (fun he => ?_) (fun he => ?_)
        · refine z_lv (ks := [0, 1, 2, 4]) rfl ?_
          exact p_X10_marks_J9_75 S  he hc hx
        · refine z_iload_n S dX10_marks_62 rfl 2 rfl ?_
          refine z_iload S dX10_marks_63 4 rfl ?_
          refine z_cSI (As := [.int v2, .int (r4 - 97)]) S cs_RX10_117 (K_X10_isOf  rfl) ⟨rfl, rfl⟩ ⟨Nat.le_of_ble_eq_true rfl, Nat.le_of_ble_eq_true rfl⟩ ⟨Nat.le_refl _, Nat.le_refl _⟩ rfl rfl (Nat.le_of_ble_eq_true rfl) dX10_marks_65 ?_
          refine z_ifb_ne (tgt := 75) S he dX10_marks_68 (by decide) (fun he => ?_) (fun he => ?_)
          · refine z_lv (ks := [0, 1, 2, 4]) rfl ?_
            exact p_X10_marks_J9_75 S  he hc hx
          · refine z_iconst (v := 1) S dX10_marks_71 (by decide) ?_
            refine z_goto (tgt := 76) S dX10_marks_72 (by decide) ?_
            refine z_lv (ks := [0, 1, 2, 4]) rfl ?_
            exact p_X10_marks_J9_76 S  he hc hx
set_option maxRecDepth 100000 in
set_option maxHeartbeats 4000000 in
theorem p_X10_marks_J113 {X : Cx} {p : Program} {l : Launch} {e : Env} {s : State} {m : MethodId} {args : Array Value} {below : List Frame} {meth : Method} {c : Code} (S : SB X 1 p s m args meth c cX10_marks 5 (some .int) RX10) {M : Mm} {N : Mm} {r : Int32} {v1 : Int32} {v2 : Int32}  (he : f_X10_marks_J113 M v1 v2 = some (r, N)) : Z X 1 p l e rm_X10_marks s m args below meth c 0 0 (MQ below (QI X 1 r N s.heap.size) args s 0 0 (AA X 1 s.heap.size)) 5 M 113 [(0, .ref (X.2.2 200)), (1, .int v1), (2, .int v2)] [] := by
  unfold f_X10_marks_J113 at he
  refine z_aload_n S dX10_marks_113 rfl 0 rfl ?_
  refine z_iload_n S dX10_marks_114 rfl 1 rfl ?_
  obtain ⟨M8, h9, he⟩ := bnd he
  refine z_cVV (As := [.int v1]) S cv_RX10_106 (K_X10_wrong  (Option.some.inj h9)) ok_200 (by decide) (q := (RX10, TX10, 28)) rfl rfl ⟨rfl, rfl⟩ ⟨Nat.le_of_ble_eq_true rfl, Nat.le_of_ble_eq_true rfl⟩ ⟨Nat.le_refl _, Nat.le_refl _⟩ rfl rfl (Nat.le_of_ble_eq_true rfl) dX10_marks_115 ?_
  refine z_iload_n S dX10_marks_118 rfl 2 rfl ?_
  exact z_iret S (Prod.mk.inj (Option.some.inj he)) dX10_marks_119
set_option maxRecDepth 100000 in
set_option maxHeartbeats 4000000 in
theorem K_X10_marks {X : Cx} {l : Launch} {M : Mm} {r : Int32} {N : Mm}  (he : f_X10_marks M  = some (r, N)) : KI X 1 l yX10_marks (wz yX10_marks cX10_marks 5 (some .int)) rm_X10_marks [.ref (X.2.2 200)] M r N := by
  intro sz
  refine K_of (Qc := (fun sz => QI X 1 r N sz)) (own := RX10) (lv0 := [(0, .ref (X.2.2 200))]) (by decide +kernel) rfl (Nat.le_of_ble_eq_true rfl) rfl (fun p e s m args below meth c S => ?_) sz
  · unfold f_X10_marks at he
    refine z_aload_n S dX10_marks_0 rfl 0 rfl ?_
    obtain ⟨⟨r1, M2⟩, h9, he⟩ := bnd he
    dsimp only at he
    refine z_cVI (As := []) S cv_RX10_103 (K_X10_place  h9) ok_200 (by decide) (q := (RX10, TX10, 28)) rfl rfl ⟨rfl, rfl⟩ ⟨Nat.le_of_ble_eq_true rfl, Nat.le_of_ble_eq_true rfl⟩ ⟨Nat.le_refl _, Nat.le_refl _⟩ rfl rfl (Nat.le_of_ble_eq_true rfl) dX10_marks_1 ?_
    refine z_istore_n (lv' := [(0, .ref (X.2.2 200)), (1, .int r1)]) S [1, 0] dX10_marks_4 rfl (by decide) rfl ?_
    refine z_iconst (v := 0) S dX10_marks_5 (by decide) ?_
    refine z_istore_n (lv' := [(0, .ref (X.2.2 200)), (1, .int r1), (2, .int 0)]) S [1, 2, 0] dX10_marks_6 rfl (by decide) rfl ?_
    refine z_iconst (v := 1) S dX10_marks_7 (by decide) ?_
    refine z_istore_n (lv' := [(0, .ref (X.2.2 200)), (1, .int r1), (2, .int 0), (3, .int 1)]) S [1, 2, 3, 0] dX10_marks_8 rfl (by decide) rfl ?_
    obtain ⟨e_7, hl, he⟩ := bnd he
    have hX : Z X 1 p l e rm_X10_marks s m args below meth c 0 0 (MQ below (QI X 1 r N s.heap.size) args s 0 0 (AA X 1 s.heap.size)) 5 e_7.1 101 [(0, .ref (X.2.2 200)), (1, .int r1), (2, .int e_7.2.1), (3, .int e_7.2.2)] [] := by
      refine z_iload_n S dX10_marks_101 rfl 3 rfl ?_
      refine z_if_eq (tgt := 113) S he dX10_marks_102 (by decide) (fun he => ?_) (fun he => ?_)
      · refine z_lv (ks := [0, 1, 2]) rfl ?_
        exact p_X10_marks_J113 S  he
      · refine z_aload_n S dX10_marks_105 rfl 0 rfl ?_
        refine z_getI S fo_RX10_80 rfl ok_200 dX10_marks_106 ?_
        refine z_iload_n S dX10_marks_109 rfl 1 rfl ?_
        refine z_icmp_ne (tgt := 118) S he dX10_marks_110 (by decide) (fun he => ?_) (fun he => ?_)
        · refine z_iload_n S dX10_marks_118 rfl 2 rfl ?_
          exact z_iret S (Prod.mk.inj (Option.some.inj he)) dX10_marks_119
        · refine z_lv (ks := [0, 1, 2]) rfl ?_
          exact p_X10_marks_J113 S  he
    exact loopZ (Zh := (fun a_7 => Z X 1 p l e rm_X10_marks s m args below meth c 0 0 (MQ below (QI X 1 r N s.heap.size) args s 0 0 (AA X 1 s.heap.size)) 5 a_7.1 9 [(0, .ref (X.2.2 200)), (1, .int r1), (2, .int a_7.2.1), (3, .int a_7.2.2)] [])) (fun a_7 x hb hc hr => p_X10_marks_L9 S  hb hc (fun b hxe => by rw [hr b hxe]; exact hX)) FU _ hl
set_option maxRecDepth 100000 in
set_option maxHeartbeats 4000000 in
theorem K_X10_greater {X : Cx} {l : Launch} {M : Mm} {a0 : Int32} {a1 : Int32} {r : Int32}  (he : f_X10_greater M a0 a1 = r) : KI X 1 l yX10_greater (wz yX10_greater cX10_greater 2 (some .int)) rm_X10_greater [.int a0, .int a1] M r M := by
  intro sz
  refine K_of (Qc := (fun sz => QI X 1 r M sz)) (own := RX10) (lv0 := [(0, .int a0), (1, .int a1)]) (by decide +kernel) rfl (Nat.le_of_ble_eq_true rfl) rfl (fun p e s m args below meth c S => ?_) sz
  · unfold f_X10_greater at he
    refine z_iload_n S dX10_greater_0 rfl 0 rfl ?_
    refine z_iload_n S dX10_greater_1 rfl 1 rfl ?_
    refine z_icmp_le (tgt := 9) S he dX10_greater_2 (by decide) (fun he => ?_) (fun he => ?_)
    · refine z_iload_n S dX10_greater_9 rfl 1 rfl ?_
      exact z_iret S (⟨he, rfl⟩) dX10_greater_10
    · refine z_iload_n S dX10_greater_5 rfl 0 rfl ?_
      refine z_goto (tgt := 10) S dX10_greater_6 (by decide) ?_
      exact z_iret S (⟨he, rfl⟩) dX10_greater_10
set_option maxRecDepth 100000 in
set_option maxHeartbeats 4000000 in
theorem K_X10_rings {X : Cx} {l : Launch} {M : Mm} {a1 : Int32} {a2 : Int32} {r : Bool}  (he : f_X10_rings M a1 a2 = some r) : KI X 1 l yX10_rings (wz yX10_rings cX10_rings 3 (some .boolean)) rm_X10_rings [.ref (X.2.2 200), .int a1, .int a2] M (bI r) M := by
  intro sz
  refine K_of (Qc := (fun sz => QI X 1 (bI r) M sz)) (own := RX10) (lv0 := [(0, .ref (X.2.2 200)), (1, .int a1), (2, .int a2)]) (by decide +kernel) rfl (Nat.le_of_ble_eq_true rfl) rfl (fun p e s m args below meth c S => ?_) sz
  · unfold f_X10_rings at he
    refine z_aload_n S dX10_rings_0 rfl 0 rfl ?_
    refine z_iload_n S dX10_rings_1 rfl 1 rfl ?_
    refine z_iconst (v := 3) S dX10_rings_2 (by decide) ?_
    obtain ⟨r1, h9, he⟩ := bnd he
    refine z_cVI (As := [.int a1, .int 3]) S cv_RX10_70 (K_X10_of  h9) ok_200 (by decide) (q := (RX10, TX10, 28)) rfl rfl ⟨rfl, rfl⟩ ⟨Nat.le_of_ble_eq_true rfl, Nat.le_of_ble_eq_true rfl⟩ ⟨Nat.le_refl _, Nat.le_refl _⟩ rfl rfl (Nat.le_of_ble_eq_true rfl) dX10_rings_3 ?_
    refine z_iconst (v := 1) S dX10_rings_6 (by decide) ?_
    refine z_icmp_ne (tgt := 35) S he dX10_rings_7 (by decide) (fun he => ?_) (fun he => ?_)
    · refine z_iconst (v := 0) S dX10_rings_35 (by decide) ?_
      exact z_zret0 S (⟨Option.some.inj he, rfl⟩) dX10_rings_36
    · refine z_iload_n S dX10_rings_10 rfl 2 rfl ?_
      refine z_if_le (tgt := 35) S he dX10_rings_11 (by decide) (fun he => ?_) (fun he => ?_)
      · refine z_iconst (v := 0) S dX10_rings_35 (by decide) ?_
        exact z_zret0 S (⟨Option.some.inj he, rfl⟩) dX10_rings_36
      · refine z_iload_n S dX10_rings_14 rfl 2 rfl ?_
        refine z_aload_n S dX10_rings_15 rfl 0 rfl ?_
        refine z_iload_n S dX10_rings_16 rfl 1 rfl ?_
        refine z_iconst (v := 1) S dX10_rings_17 (by decide) ?_
        obtain ⟨r2, h9, he⟩ := bnd he
        refine z_cVI (As := [.int a1, .int 1]) S cv_RX10_70 (K_X10_of  h9) ok_200 (by decide) (q := (RX10, TX10, 28)) rfl rfl ⟨rfl, rfl⟩ ⟨Nat.le_of_ble_eq_true rfl, Nat.le_of_ble_eq_true rfl⟩ ⟨Nat.le_refl _, Nat.le_refl _⟩ rfl rfl (Nat.le_of_ble_eq_true rfl) dX10_rings_18 ?_
        refine z_aload_n S dX10_rings_21 rfl 0 rfl ?_
        refine z_iload_n S dX10_rings_22 rfl 1 rfl ?_
        refine z_iconst (v := 4) S dX10_rings_23 (by decide) ?_
        obtain ⟨r3, h9, he⟩ := bnd he
        refine z_cVI (As := [.int a1, .int 4]) S cv_RX10_70 (K_X10_of  h9) ok_200 (by decide) (q := (RX10, TX10, 28)) rfl rfl ⟨rfl, rfl⟩ ⟨Nat.le_of_ble_eq_true rfl, Nat.le_of_ble_eq_true rfl⟩ ⟨Nat.le_refl _, Nat.le_refl _⟩ rfl rfl (Nat.le_of_ble_eq_true rfl) dX10_rings_24 ?_
        refine z_isub S dX10_rings_27 ?_
        refine z_icmp_lt (tgt := 35) S he dX10_rings_28 (by decide) (fun he => ?_) (fun he => ?_)
        · refine z_iconst (v := 0) S dX10_rings_35 (by decide) ?_
          exact z_zret0 S (⟨Option.some.inj he, rfl⟩) dX10_rings_36
        · refine z_iconst (v := 1) S dX10_rings_31 (by decide) ?_
          refine z_goto (tgt := 36) S dX10_rings_32 (by decide) ?_
          exact z_zret1 S (⟨Option.some.inj he, rfl⟩) dX10_rings_36
set_option maxRecDepth 100000 in
set_option maxHeartbeats 4000000 in
theorem K_X10_isThing {X : Cx} {l : Launch} {M : Mm} {a1 : Int32} {r : Bool}  (he : f_X10_isThing M a1 = some r) : KI X 1 l yX10_isThing (wz yX10_isThing cX10_isThing 2 (some .boolean)) rm_X10_isThing [.ref (X.2.2 200), .int a1] M (bI r) M := by
  intro sz
  refine K_of (Qc := (fun sz => QI X 1 (bI r) M sz)) (own := RX10) (lv0 := [(0, .ref (X.2.2 200)), (1, .int a1)]) (by decide +kernel) rfl (Nat.le_of_ble_eq_true rfl) rfl (fun p e s m args below meth c S => ?_) sz
  · unfold f_X10_isThing at he
    refine z_iload_n S dX10_isThing_0 rfl 1 rfl ?_
    refine z_iconst (v := 0) S dX10_isThing_1 (by decide) ?_
    refine z_aload_n S dX10_isThing_2 rfl 0 rfl ?_
    refine z_getF (j := 201) S fo_RX10_7 1 rfl rfl ok_200 dX10_isThing_3 ?_
    refine z_iconst (v := 3) S dX10_isThing_6 (by decide) ?_
    refine z_iald S ok_201 rfl he dX10_isThing_7 (fun he => ?_)
    refine z_iconst (v := 1) S dX10_isThing_8 (by decide) ?_
    refine z_isub S dX10_isThing_9 ?_
    refine z_cSI (As := [.int a1, .int 0, .int ((gA M 201 3) - 1)]) S cs_RX10_66 (K_X10_isIn  rfl) ⟨rfl, rfl⟩ ⟨Nat.le_of_ble_eq_true rfl, Nat.le_of_ble_eq_true rfl⟩ ⟨Nat.le_refl _, Nat.le_refl _⟩ rfl rfl (Nat.le_of_ble_eq_true rfl) dX10_isThing_10 ?_
    exact z_zret S (⟨Option.some.inj he, rfl⟩) dX10_isThing_13
set_option maxRecDepth 100000 in
set_option maxHeartbeats 4000000 in
theorem p_X10_putsAside_L2 {X : Cx} {p : Program} {l : Launch} {e : Env} {s : State} {m : MethodId} {args : Array Value} {below : List Frame} {meth : Method} {c : Code} (S : SB X 1 p s m args meth c cX10_putsAside 2 none RX10) {M : Mm} {N : Mm} {v1 : Int32} {x : (Mm × Int32) ⊕ Mm}  (he : f_X10_putsAside_L2 M v1 = some x) (hc : ∀ b, x = .inl b → Z X 1 p l e rm_X10_putsAside s m args below meth c 0 0 (MQ below (QV X 1 N s.heap.size) args s 0 0 (AA X 1 s.heap.size)) 2 b.1 2 [(0, .ref (X.2.2 200)), (1, .int b.2)] []) (hx : ∀ b, x = .inr b → Z X 1 p l e rm_X10_putsAside s m args below meth c 0 0 (MQ below (QV X 1 N s.heap.size) args s 0 0 (AA X 1 s.heap.size)) 2 b 27 [] []) : Z X 1 p l e rm_X10_putsAside s m args below meth c 0 0 (MQ below (QV X 1 N s.heap.size) args s 0 0 (AA X 1 s.heap.size)) 2 M 2 [(0, .ref (X.2.2 200)), (1, .int v1)] [] := by
  unfold f_X10_putsAside_L2 at he
  refine z_iload_n S dX10_putsAside_2 rfl 1 rfl ?_
  refine z_sipush (v := 407) S dX10_putsAside_3 (by decide) ?_
  refine z_icmp_ge (tgt := 27) S he dX10_putsAside_6 (by decide) (fun he => ?_) (fun he => ?_)
  · refine z_lv (ks := []) rfl ?_
    exact hx _ (Option.some.inj he).symm
  · refine z_aload_n S dX10_putsAside_9 rfl 0 rfl ?_
    refine z_getF (j := 203) S fo_RX10_16 3 rfl rfl ok_200 dX10_putsAside_10 ?_
    refine z_iload_n S dX10_putsAside_13 rfl 1 rfl ?_
    refine z_aload_n S dX10_putsAside_14 rfl 0 rfl ?_
    refine z_getF (j := 201) S fo_RX10_7 1 rfl rfl ok_200 dX10_putsAside_15 ?_
    refine z_iload_n S dX10_putsAside_18 rfl 1 rfl ?_
    refine z_iald S ok_201 rfl he dX10_putsAside_19 (fun he => ?_)
    refine z_iastb S ok_203 rfl he dX10_putsAside_20 (fun M1 he => ?_)
    refine z_iinc (v := (v1 + 1)) (lv' := [(0, .ref (X.2.2 200)), (1, .int (v1 + 1))]) S [1, 0] 1 dX10_putsAside_21 rfl (by rfl) (by decide) rfl ?_
    refine z_goto (tgt := 2) S dX10_putsAside_24 (by decide) ?_
    refine z_lv (ks := [0, 1]) rfl ?_
    exact hc _ (Option.some.inj he).symm
set_option maxRecDepth 100000 in
set_option maxHeartbeats 4000000 in
theorem K_X10_putsAside {X : Cx} {l : Launch} {M : Mm} {N : Mm}  (he : f_X10_putsAside M  = some N) : KV X 1 l yX10_putsAside (wz yX10_putsAside cX10_putsAside 2 none) rm_X10_putsAside [.ref (X.2.2 200)] M N := by
  intro sz
  refine K_of (Qc := (fun sz => QV X 1 N sz)) (own := RX10) (lv0 := [(0, .ref (X.2.2 200))]) (by decide +kernel) rfl (Nat.le_of_ble_eq_true rfl) rfl (fun p e s m args below meth c S => ?_) sz
  · unfold f_X10_putsAside at he
    refine z_iconst (v := 0) S dX10_putsAside_0 (by decide) ?_
    refine z_istore_n (lv' := [(0, .ref (X.2.2 200)), (1, .int 0)]) S [1, 0] dX10_putsAside_1 rfl (by decide) rfl ?_
    obtain ⟨e_2, hl, he⟩ := bnd he
    have hX : Z X 1 p l e rm_X10_putsAside s m args below meth c 0 0 (MQ below (QV X 1 N s.heap.size) args s 0 0 (AA X 1 s.heap.size)) 2 e_2 27 [] [] := by
      exact z_vret S (Option.some.inj he) dX10_putsAside_27
    exact loopZ (Zh := (fun a_2 => Z X 1 p l e rm_X10_putsAside s m args below meth c 0 0 (MQ below (QV X 1 N s.heap.size) args s 0 0 (AA X 1 s.heap.size)) 2 a_2.1 2 [(0, .ref (X.2.2 200)), (1, .int a_2.2)] [])) (fun a_2 x hb hc hr => p_X10_putsAside_L2 S  hb hc (fun b hxe => by rw [hr b hxe]; exact hX)) FU _ hl
set_option maxRecDepth 100000 in
set_option maxHeartbeats 4000000 in
theorem p_X10_beginsDay_L2 {X : Cx} {p : Program} {l : Launch} {e : Env} {s : State} {m : MethodId} {args : Array Value} {below : List Frame} {meth : Method} {c : Code} (S : SB X 1 p s m args meth c cX10_beginsDay 2 none RX10) {M : Mm} {N : Mm} {v1 : Int32} {x : (Mm × Int32) ⊕ Mm}  (he : f_X10_beginsDay_L2 M v1 = some x) (hc : ∀ b, x = .inl b → Z X 1 p l e rm_X10_beginsDay s m args below meth c 0 0 (MQ below (QV X 1 N s.heap.size) args s 0 0 (AA X 1 s.heap.size)) 2 b.1 2 [(0, .ref (X.2.2 200)), (1, .int b.2)] []) (hx : ∀ b, x = .inr b → Z X 1 p l e rm_X10_beginsDay s m args below meth c 0 0 (MQ below (QV X 1 N s.heap.size) args s 0 0 (AA X 1 s.heap.size)) 2 b 21 [(0, .ref (X.2.2 200))] []) : Z X 1 p l e rm_X10_beginsDay s m args below meth c 0 0 (MQ below (QV X 1 N s.heap.size) args s 0 0 (AA X 1 s.heap.size)) 2 M 2 [(0, .ref (X.2.2 200)), (1, .int v1)] [] := by
  unfold f_X10_beginsDay_L2 at he
  refine z_iload_n S dX10_beginsDay_2 rfl 1 rfl ?_
  refine z_bipush (v := 9) S dX10_beginsDay_3 (by decide) ?_
  refine z_icmp_ge (tgt := 21) S he dX10_beginsDay_5 (by decide) (fun he => ?_) (fun he => ?_)
  · refine z_lv (ks := [0]) rfl ?_
    exact hx _ (Option.some.inj he).symm
  · refine z_aload_n S dX10_beginsDay_8 rfl 0 rfl ?_
    refine z_getF (j := 210) S fo_RX10_41 10 rfl rfl ok_200 dX10_beginsDay_9 ?_
    refine z_iload_n S dX10_beginsDay_12 rfl 1 rfl ?_
    refine z_iconst (v := 0) S dX10_beginsDay_13 (by decide) ?_
    refine z_iastb S ok_210 rfl he dX10_beginsDay_14 (fun M1 he => ?_)
    refine z_iinc (v := (v1 + 1)) (lv' := [(0, .ref (X.2.2 200)), (1, .int (v1 + 1))]) S [1, 0] 1 dX10_beginsDay_15 rfl (by rfl) (by decide) rfl ?_
    refine z_goto (tgt := 2) S dX10_beginsDay_18 (by decide) ?_
    refine z_lv (ks := [0, 1]) rfl ?_
    exact hc _ (Option.some.inj he).symm
set_option maxRecDepth 100000 in
set_option maxHeartbeats 4000000 in
theorem p_X10_beginsDay_L23 {X : Cx} {p : Program} {l : Launch} {e : Env} {s : State} {m : MethodId} {args : Array Value} {below : List Frame} {meth : Method} {c : Code} (S : SB X 1 p s m args meth c cX10_beginsDay 2 none RX10) {M : Mm} {N : Mm} {v1 : Int32} {x : (Mm × Int32) ⊕ Mm}  (he : f_X10_beginsDay_L23 M v1 = some x) (hc : ∀ b, x = .inl b → Z X 1 p l e rm_X10_beginsDay s m args below meth c 0 0 (MQ below (QV X 1 N s.heap.size) args s 0 0 (AA X 1 s.heap.size)) 2 b.1 23 [(0, .ref (X.2.2 200)), (1, .int b.2)] []) (hx : ∀ b, x = .inr b → Z X 1 p l e rm_X10_beginsDay s m args below meth c 0 0 (MQ below (QV X 1 N s.heap.size) args s 0 0 (AA X 1 s.heap.size)) 2 b 49 [] []) : Z X 1 p l e rm_X10_beginsDay s m args below meth c 0 0 (MQ below (QV X 1 N s.heap.size) args s 0 0 (AA X 1 s.heap.size)) 2 M 23 [(0, .ref (X.2.2 200)), (1, .int v1)] [] := by
  unfold f_X10_beginsDay_L23 at he
  refine z_iload_n S dX10_beginsDay_23 rfl 1 rfl ?_
  refine z_bipush (v := 10) S dX10_beginsDay_24 (by decide) ?_
  refine z_icmp_ge (tgt := 49) S he dX10_beginsDay_26 (by decide) (fun he => ?_) (fun he => ?_)
  · refine z_lv (ks := []) rfl ?_
    exact hx _ (Option.some.inj he).symm
  · refine z_aload_n S dX10_beginsDay_29 rfl 0 rfl ?_
    refine z_getF (j := 208) S fo_RX10_35 8 rfl rfl ok_200 dX10_beginsDay_30 ?_
    refine z_iload_n S dX10_beginsDay_33 rfl 1 rfl ?_
    refine z_iconst (v := (-1)) S dX10_beginsDay_34 (by decide) ?_
    refine z_iastb S ok_208 rfl he dX10_beginsDay_35 (fun M3 he => ?_)
    refine z_aload_n S dX10_beginsDay_36 rfl 0 rfl ?_
    refine z_getF (j := 209) S fo_RX10_38 9 rfl rfl ok_200 dX10_beginsDay_37 ?_
    refine z_iload_n S dX10_beginsDay_40 rfl 1 rfl ?_
    refine z_iconst (v := (-1)) S dX10_beginsDay_41 (by decide) ?_
    refine z_iastb S ok_209 rfl he dX10_beginsDay_42 (fun M4 he => ?_)
    refine z_iinc (v := (v1 + 1)) (lv' := [(0, .ref (X.2.2 200)), (1, .int (v1 + 1))]) S [1, 0] 1 dX10_beginsDay_43 rfl (by rfl) (by decide) rfl ?_
    refine z_goto (tgt := 23) S dX10_beginsDay_46 (by decide) ?_
    refine z_lv (ks := [0, 1]) rfl ?_
    exact hc _ (Option.some.inj he).symm
set_option maxRecDepth 100000 in
set_option maxHeartbeats 4000000 in
theorem K_X10_beginsDay {X : Cx} {l : Launch} {M : Mm} {N : Mm}  (he : f_X10_beginsDay M  = some N) : KV X 1 l yX10_beginsDay (wz yX10_beginsDay cX10_beginsDay 2 none) rm_X10_beginsDay [.ref (X.2.2 200)] M N := by
  intro sz
  refine K_of (Qc := (fun sz => QV X 1 N sz)) (own := RX10) (lv0 := [(0, .ref (X.2.2 200))]) (by decide +kernel) rfl (Nat.le_of_ble_eq_true rfl) rfl (fun p e s m args below meth c S => ?_) sz
  · unfold f_X10_beginsDay at he
    refine z_iconst (v := 0) S dX10_beginsDay_0 (by decide) ?_
    refine z_istore_n (lv' := [(0, .ref (X.2.2 200)), (1, .int 0)]) S [1, 0] dX10_beginsDay_1 rfl (by decide) rfl ?_
    obtain ⟨e_2, hl, he⟩ := bnd he
    have hX : Z X 1 p l e rm_X10_beginsDay s m args below meth c 0 0 (MQ below (QV X 1 N s.heap.size) args s 0 0 (AA X 1 s.heap.size)) 2 e_2 21 [(0, .ref (X.2.2 200))] [] := by
      refine z_iconst (v := 0) S dX10_beginsDay_21 (by decide) ?_
      refine z_istore_n (lv' := [(0, .ref (X.2.2 200)), (1, .int 0)]) S [1, 0] dX10_beginsDay_22 rfl (by decide) rfl ?_
      obtain ⟨e_5, hl, he⟩ := bnd he
      have hX : Z X 1 p l e rm_X10_beginsDay s m args below meth c 0 0 (MQ below (QV X 1 N s.heap.size) args s 0 0 (AA X 1 s.heap.size)) 2 e_5 49 [] [] := by
        exact z_vret S (Option.some.inj he) dX10_beginsDay_49
      exact loopZ (Zh := (fun a_5 => Z X 1 p l e rm_X10_beginsDay s m args below meth c 0 0 (MQ below (QV X 1 N s.heap.size) args s 0 0 (AA X 1 s.heap.size)) 2 a_5.1 23 [(0, .ref (X.2.2 200)), (1, .int a_5.2)] [])) (fun a_5 x hb hc hr => p_X10_beginsDay_L23 S  hb hc (fun b hxe => by rw [hr b hxe]; exact hX)) FU _ hl
    exact loopZ (Zh := (fun a_2 => Z X 1 p l e rm_X10_beginsDay s m args below meth c 0 0 (MQ below (QV X 1 N s.heap.size) args s 0 0 (AA X 1 s.heap.size)) 2 a_2.1 2 [(0, .ref (X.2.2 200)), (1, .int a_2.2)] [])) (fun a_2 x hb hc hr => p_X10_beginsDay_L2 S  hb hc (fun b hxe => by rw [hr b hxe]; exact hX)) FU _ hl
set_option maxRecDepth 100000 in
set_option maxHeartbeats 4000000 in
theorem K_X10_draw {X : Cx} {l : Launch} {M : Mm} {a1 : Int32} {r : Int32} {N : Mm}  (he : f_X10_draw M a1 = some (r, N)) : KI X 1 l yX10_draw (wz yX10_draw cX10_draw 2 (some .int)) rm_X10_draw [.ref (X.2.2 200), .int a1] M r N := by
  intro sz
  refine K_of (Qc := (fun sz => QI X 1 r N sz)) (own := RX10) (lv0 := [(0, .ref (X.2.2 200)), (1, .int a1)]) (by decide +kernel) rfl (Nat.le_of_ble_eq_true rfl) rfl (fun p e s m args below meth c S => ?_) sz
  · unfold f_X10_draw at he
    refine z_aload_n S dX10_draw_0 rfl 0 rfl ?_
    refine z_getF (j := 201) S fo_RX10_7 1 rfl rfl ok_200 dX10_draw_1 ?_
    refine z_bipush (v := 9) S dX10_draw_4 (by decide) ?_
    refine z_ldcw (v := 1103515245) S kc_RX10_271 dX10_draw_6 ?_
    refine z_aload_n S dX10_draw_9 rfl 0 rfl ?_
    refine z_getF (j := 201) S fo_RX10_7 1 rfl rfl ok_200 dX10_draw_10 ?_
    refine z_bipush (v := 9) S dX10_draw_13 (by decide) ?_
    refine z_iald S ok_201 rfl he dX10_draw_15 (fun he => ?_)
    refine z_imul S dX10_draw_16 ?_
    refine z_sipush (v := 12345) S dX10_draw_17 (by decide) ?_
    refine z_iadd S dX10_draw_20 ?_
    refine z_iastb S ok_201 rfl he dX10_draw_21 (fun M1 he => ?_)
    refine z_aload_n S dX10_draw_22 rfl 0 rfl ?_
    refine z_getF (j := 201) S fo_RX10_7 1 rfl rfl ok_200 dX10_draw_23 ?_
    refine z_bipush (v := 9) S dX10_draw_26 (by decide) ?_
    refine z_iald S ok_201 rfl he dX10_draw_28 (fun he => ?_)
    refine z_bipush (v := 16) S dX10_draw_29 (by decide) ?_
    refine z_iushr S dX10_draw_31 ?_
    refine z_sipush (v := 32767) S dX10_draw_32 (by decide) ?_
    refine z_iand S dX10_draw_35 ?_
    refine z_iload_n S dX10_draw_36 rfl 1 rfl ?_
    obtain ⟨hy9, he⟩ := grd he
    refine z_irem S hy9 dX10_draw_37 ?_
    exact z_iret S (Prod.mk.inj (Option.some.inj he)) dX10_draw_38
set_option maxRecDepth 100000 in
set_option maxHeartbeats 4000000 in
theorem K_X10_canHave {X : Cx} {l : Launch} {M : Mm} {a1 : Int32} {a2 : Int32} {r : Bool}  (he : f_X10_canHave M a1 a2 = some r) : KI X 1 l yX10_canHave (wz yX10_canHave cX10_canHave 3 (some .boolean)) rm_X10_canHave [.ref (X.2.2 200), .int a1, .int a2] M (bI r) M := by
  intro sz
  refine K_of (Qc := (fun sz => QI X 1 (bI r) M sz)) (own := RX10) (lv0 := [(0, .ref (X.2.2 200)), (1, .int a1), (2, .int a2)]) (by decide +kernel) rfl (Nat.le_of_ble_eq_true rfl) rfl (fun p e s m args below meth c S => ?_) sz
  · unfold f_X10_canHave at he
    refine z_aload_n S dX10_canHave_0 rfl 0 rfl ?_
    refine z_iload_n S dX10_canHave_1 rfl 1 rfl ?_
    refine z_aload_n S dX10_canHave_2 rfl 0 rfl ?_
    refine z_getF (j := 207) S fo_RX10_32 7 rfl rfl ok_200 dX10_canHave_3 ?_
    refine z_bipush (v := 10) S dX10_canHave_6 (by decide) ?_
    refine z_iload_n S dX10_canHave_8 rfl 1 rfl ?_
    refine z_imul S dX10_canHave_9 ?_
    refine z_iload_n S dX10_canHave_10 rfl 2 rfl ?_
    refine z_iadd S dX10_canHave_11 ?_
    refine z_iald S ok_207 rfl he dX10_canHave_12 (fun he => ?_)
    obtain ⟨r1, h9, he⟩ := bnd he
    refine z_cVI (As := [.int a1, .int (gA M 207 ((10 * a1) + a2))]) S cv_RX10_256 (K_X10_rings  h9) ok_200 (by decide) (q := (RX10, TX10, 28)) rfl rfl ⟨rfl, rfl⟩ ⟨Nat.le_of_ble_eq_true rfl, Nat.le_of_ble_eq_true rfl⟩ ⟨Nat.le_refl _, Nat.le_refl _⟩ rfl rfl (Nat.le_of_ble_eq_true rfl) dX10_canHave_13 ?_
    exact z_zret S (⟨Option.some.inj he, rfl⟩) dX10_canHave_16
set_option maxRecDepth 100000 in
set_option maxHeartbeats 4000000 in
theorem p_X10_ledPast_J4_111 {X : Cx} {p : Program} {l : Launch} {e : Env} {s : State} {m : MethodId} {args : Array Value} {below : List Frame} {meth : Method} {c : Code} (S : SB X 1 p s m args meth c cX10_ledPast 5 (some .int) RX10) {M : Mm} {N : Mm} {r : Int32} {v1 : Int32} {v3 : Int32} {v4 : Int32} {x : (Mm × Int32 × Int32) ⊕ (Mm × Int32)}  (he : f_X10_ledPast_J4_111 M v1 v3 v4 = some x) (hc : ∀ b, x = .inl b → Z X 1 p l e rm_X10_ledPast s m args below meth c 0 0 (MQ below (QI X 1 r N s.heap.size) args s 0 0 (AA X 1 s.heap.size)) 5 b.1 4 [(0, .ref (X.2.2 200)), (1, .int v1), (2, .int b.2.1), (3, .int b.2.2)] []) (hx : ∀ b, x = .inr b → Z X 1 p l e rm_X10_ledPast s m args below meth c 0 0 (MQ below (QI X 1 r N s.heap.size) args s 0 0 (AA X 1 s.heap.size)) 5 b.1 127 [(2, .int b.2)] []) : Z X 1 p l e rm_X10_ledPast s m args below meth c 0 0 (MQ below (QI X 1 r N s.heap.size) args s 0 0 (AA X 1 s.heap.size)) 5 M 111 [(0, .ref (X.2.2 200)), (1, .int v1), (3, .int v3), (4, .int v4)] [] := by
  unfold f_X10_ledPast_J4_111 at he
  refine z_iload_n S dX10_ledPast_111 rfl 2 rfl ?_
  refine z_istore_n (lv' := [(0, .ref (X.2.2 200)), (1, .int v1), (2, .int v3), (3, .int v3), (4, .int v4)]) S [1, 2, 0, 3, 4] dX10_ledPast_112 rfl (by decide) rfl ?_
  refine z_aload_n S dX10_ledPast_113 rfl 0 rfl ?_
  refine z_getF (j := 209) S fo_RX10_38 9 rfl rfl ok_200 dX10_ledPast_114 ?_
  refine z_iload_n S dX10_ledPast_117 rfl 1 rfl ?_
  refine z_iload S dX10_ledPast_118 4 rfl ?_
  refine z_iastb S ok_209 rfl he dX10_ledPast_120 (fun M4 he => ?_)
  refine z_iinc (v := (v3 + 1)) (lv' := [(0, .ref (X.2.2 200)), (1, .int v1), (2, .int v3), (3, .int (v3 + 1)), (4, .int v4)]) S [1, 2, 3, 0, 4] 3 dX10_ledPast_121 rfl (by rfl) (by decide) rfl ?_
  refine z_goto (tgt := 4) S dX10_ledPast_124 (by decide) ?_
  refine z_lv (ks := [0, 1, 2, 3]) rfl ?_
  exact hc _ (Option.some.inj he).symm
set_option maxRecDepth 100000 in
set_option maxHeartbeats 4000000 in
theorem p_X10_ledPast_L4 {X : Cx} {p : Program} {l : Launch} {e : Env} {s : State} {m : MethodId} {args : Array Value} {below : List Frame} {meth : Method} {c : Code} (S : SB X 1 p s m args meth c cX10_ledPast 5 (some .int) RX10) {M : Mm} {N : Mm} {r : Int32} {v1 : Int32} {v2 : Int32} {v3 : Int32} {x : (Mm × Int32 × Int32) ⊕ (Mm × Int32)}  (he : f_X10_ledPast_L4 M v1 v2 v3 = some x) (hc : ∀ b, x = .inl b → Z X 1 p l e rm_X10_ledPast s m args below meth c 0 0 (MQ below (QI X 1 r N s.heap.size) args s 0 0 (AA X 1 s.heap.size)) 5 b.1 4 [(0, .ref (X.2.2 200)), (1, .int v1), (2, .int b.2.1), (3, .int b.2.2)] []) (hx : ∀ b, x = .inr b → Z X 1 p l e rm_X10_ledPast s m args below meth c 0 0 (MQ below (QI X 1 r N s.heap.size) args s 0 0 (AA X 1 s.heap.size)) 5 b.1 127 [(2, .int b.2)] []) : Z X 1 p l e rm_X10_ledPast s m args below meth c 0 0 (MQ below (QI X 1 r N s.heap.size) args s 0 0 (AA X 1 s.heap.size)) 5 M 4 [(0, .ref (X.2.2 200)), (1, .int v1), (2, .int v2), (3, .int v3)] [] := by
  unfold f_X10_ledPast_L4 at he
  refine z_iload_n S dX10_ledPast_4 rfl 3 rfl ?_
  refine z_aload_n S dX10_ledPast_5 rfl 0 rfl ?_
  refine z_getF (j := 201) S fo_RX10_7 1 rfl rfl ok_200 dX10_ledPast_6 ?_
  refine z_iconst (v := 3) S dX10_ledPast_9 (by decide) ?_
  refine z_iald S ok_201 rfl he dX10_ledPast_10 (fun he => ?_)
  refine z_icmp_ge (tgt := 127) S he dX10_ledPast_11 (by decide) (fun he => ?_) (fun he => ?_)
  · refine z_lv (ks := [2]) rfl ?_
    exact hx _ (Option.some.inj he).symm
  · refine z_aload_n S dX10_ledPast_14 rfl 0 rfl ?_
    refine z_getF (j := 210) S fo_RX10_41 10 rfl rfl ok_200 dX10_ledPast_15 ?_
    refine z_iload_n S dX10_ledPast_18 rfl 3 rfl ?_
    refine z_iald S ok_210 rfl he dX10_ledPast_19 (fun he => ?_)
    refine z_aload_n S dX10_ledPast_20 rfl 0 rfl ?_
    refine z_iload_n S dX10_ledPast_21 rfl 3 rfl ?_
    refine z_iconst (v := 2) S dX10_ledPast_22 (by decide) ?_
    obtain ⟨r1, h9, he⟩ := bnd he
    refine z_cVI (As := [.int v3, .int 2]) S cv_RX10_70 (K_X10_of  h9) ok_200 (by decide) (q := (RX10, TX10, 28)) rfl rfl ⟨rfl, rfl⟩ ⟨Nat.le_of_ble_eq_true rfl, Nat.le_of_ble_eq_true rfl⟩ ⟨Nat.le_refl _, Nat.le_refl _⟩ rfl rfl (Nat.le_of_ble_eq_true rfl) dX10_ledPast_23 ?_
    refine z_icmp_eq (tgt := 121) S he dX10_ledPast_26 (by decide) (fun he => ?_) (fun he => ?_)
    · refine z_iinc (v := (v3 + 1)) (lv' := [(0, .ref (X.2.2 200)), (1, .int v1), (2, .int v2), (3, .int (v3 + 1))]) S [1, 2, 3, 0] 3 dX10_ledPast_121 rfl (by rfl) (by decide) rfl ?_
      refine z_goto (tgt := 4) S dX10_ledPast_124 (by decide) ?_
      refine z_lv (ks := [0, 1, 2, 3]) rfl ?_
      exact hc _ (Option.some.inj he).symm
    · refine z_aload_n S dX10_ledPast_29 rfl 0 rfl ?_
      refine z_iload_n S dX10_ledPast_30 rfl 3 rfl ?_
      refine z_iload_n S dX10_ledPast_31 rfl 1 rfl ?_
      obtain ⟨r2, h9, he⟩ := bnd he
      refine z_cVI (As := [.int v3, .int v1]) S cv_RX10_259 (K_X10_canHave  h9) ok_200 (by decide) (q := (RX10, TX10, 28)) rfl rfl ⟨rfl, rfl⟩ ⟨Nat.le_of_ble_eq_true rfl, Nat.le_of_ble_eq_true rfl⟩ ⟨Nat.le_refl _, Nat.le_refl _⟩ rfl rfl (Nat.le_of_ble_eq_true rfl) dX10_ledPast_32 ?_
      refine z_ifb_ne (tgt := 41) S he dX10_ledPast_35 (by decide) (fun he => ?_) (fun he => ?_)
      · refine z_aload_n S dX10_ledPast_41 rfl 0 rfl ?_
        refine z_iload_n S dX10_ledPast_42 rfl 3 rfl ?_
        refine z_iconst (v := 0) S dX10_ledPast_43 (by decide) ?_
        obtain ⟨r3, h9, he⟩ := bnd he
        refine z_cVI (As := [.int v3, .int 0]) S cv_RX10_70 (K_X10_of  h9) ok_200 (by decide) (q := (RX10, TX10, 28)) rfl rfl ⟨rfl, rfl⟩ ⟨Nat.le_of_ble_eq_true rfl, Nat.le_of_ble_eq_true rfl⟩ ⟨Nat.le_refl _, Nat.le_refl _⟩ rfl rfl (Nat.le_of_ble_eq_true rfl) dX10_ledPast_44 ?_
        refine z_aload_n S dX10_ledPast_47 rfl 0 rfl ?_
        refine z_getF (j := 201) S fo_RX10_7 1 rfl rfl ok_200 dX10_ledPast_48 ?_
        refine z_iconst (v := 5) S dX10_ledPast_51 (by decide) ?_
        refine z_iald S ok_201 rfl he dX10_ledPast_52 (fun he => ?_)
        obtain ⟨hy9, he⟩ := grd he
        refine z_idiv S hy9 dX10_ledPast_53 ?_
        refine z_istore (lv' := [(0, .ref (X.2.2 200)), (1, .int v1), (2, .int v2), (3, .int v3), (4, .int (r3 / (gA M 201 5)))]) S [1, 2, 3, 4, 0] dX10_ledPast_54 (by decide) rfl ?_
        refine z_iload_n S dX10_ledPast_56 rfl 2 rfl ?_
        refine z_iconst (v := (-1)) S dX10_ledPast_57 (by decide) ?_
        refine z_icmp_eq (tgt := 111) S he dX10_ledPast_58 (by decide) (fun he => ?_) (fun he => ?_)
        · refine z_lv (ks := [0, 1, 3, 4]) rfl ?_
          exact p_X10_ledPast_J4_111 S  he hc hx
        · refine z_iload S dX10_ledPast_61 4 rfl ?_
          refine z_aload_n S dX10_ledPast_63 rfl 0 rfl ?_
          refine z_getF (j := 209) S fo_RX10_38 9 rfl rfl ok_200 dX10_ledPast_64 ?_
          refine z_iload_n S dX10_ledPast_67 rfl 1 rfl ?_
          refine z_iald S ok_209 rfl he dX10_ledPast_68 (fun he => ?_)
          refine z_icmp_gt (tgt := 121) S he dX10_ledPast_69 (by decide) (fun he => ?_) (fun he => ?_)
          · refine z_iinc (v := (v3 + 1)) (lv' := [(0, .ref (X.2.2 200)), (1, .int v1), (2, .int v2), (3, .int (v3 + 1)), (4, .int (r3 / (gA M 201 5)))]) S [1, 2, 3, 0, 4] 3 dX10_ledPast_121 rfl (by rfl) (by decide) rfl ?_
            refine z_goto (tgt := 4) S dX10_ledPast_124 (by decide) ?_
            refine z_lv (ks := [0, 1, 2, 3]) rfl ?_
            exact hc _ (Option.some.inj he).symm
          · refine z_iload S dX10_ledPast_72 4 rfl ?_
            refine z_aload_n S dX10_ledPast_74 rfl 0 rfl ?_
            refine z_getF (j := 209) S fo_RX10_38 9 rfl rfl ok_200 dX10_ledPast_75 ?_
            refine z_iload_n S dX10_ledPast_78 rfl 1 rfl ?_
            refine z_iald S ok_209 rfl he dX10_ledPast_79 (fun he => ?_)
            refine z_icmp_ne (tgt := 111) S he dX10_ledPast_80 (by decide) (fun he => ?_) (fun he => ?_)
            · refine z_lv (ks := [0, 1, 3, 4]) rfl ?_
              exact p_X10_ledPast_J4_111 S  he hc hx
            · refine z_aload_n S dX10_ledPast_83 rfl 0 rfl ?_
              refine z_getF (j := 207) S fo_RX10_32 7 rfl rfl ok_200 dX10_ledPast_84 ?_
              refine z_bipush (v := 10) S dX10_ledPast_87 (by decide) ?_
              refine z_iload_n S dX10_ledPast_89 rfl 3 rfl ?_
              refine z_imul S dX10_ledPast_90 ?_
              refine z_iload_n S dX10_ledPast_91 rfl 1 rfl ?_
              refine z_iadd S dX10_ledPast_92 ?_
              refine z_iald S ok_207 rfl he dX10_ledPast_93 (fun he => ?_)
              refine z_aload_n S dX10_ledPast_94 rfl 0 rfl ?_
              refine z_getF (j := 207) S fo_RX10_32 7 rfl rfl ok_200 dX10_ledPast_95 ?_
              refine z_bipush (v := 10) S dX10_ledPast_98 (by decide) ?_
              refine z_iload_n S dX10_ledPast_100 rfl 2 rfl ?_
              refine z_imul S dX10_ledPast_101 ?_
              refine z_iload_n S dX10_ledPast_102 rfl 1 rfl ?_
              refine z_iadd S dX10_ledPast_103 ?_
              refine z_iald S ok_207 rfl he dX10_ledPast_104 (fun he => ?_)
              refine z_icmp_gt (tgt := 111) S he dX10_ledPast_105 (by decide) (fun he => ?_) (fun he => ?_)
              · refine z_lv (ks := [0, 1, 3, 4]) rfl ?_
                exact p_X10_ledPast_J4_111 S  he hc hx
              · refine z_goto (tgt := 121) S dX10_ledPast_108 (by decide) ?_
                refine z_iinc (v := (v3 + 1)) (lv' := [(0, .ref (X.2.2 200)), (1, .int v1), (2, .int v2), (3, .int (v3 + 1)), (4, .int (r3 / (gA M 201 5)))]) S [1, 2, 3, 0, 4] 3 dX10_ledPast_121 rfl (by rfl) (by decide) rfl ?_
                refine z_goto (tgt := 4) S dX10_ledPast_124 (by decide) ?_
                refine z_lv (ks := [0, 1, 2, 3]) rfl ?_
                exact hc _ (Option.some.inj he).symm
      · refine z_goto (tgt := 121) S dX10_ledPast_38 (by decide) ?_
        refine z_iinc (v := (v3 + 1)) (lv' := [(0, .ref (X.2.2 200)), (1, .int v1), (2, .int v2), (3, .int (v3 + 1))]) S [1, 2, 3, 0] 3 dX10_ledPast_121 rfl (by rfl) (by decide) rfl ?_
        refine z_goto (tgt := 4) S dX10_ledPast_124 (by decide) ?_
        refine z_lv (ks := [0, 1, 2, 3]) rfl ?_
        exact hc _ (Option.some.inj he).symm
set_option maxRecDepth 100000 in
set_option maxHeartbeats 4000000 in
theorem K_X10_ledPast {X : Cx} {l : Launch} {M : Mm} {a1 : Int32} {r : Int32} {N : Mm}  (he : f_X10_ledPast M a1 = some (r, N)) : KI X 1 l yX10_ledPast (wz yX10_ledPast cX10_ledPast 5 (some .int)) rm_X10_ledPast [.ref (X.2.2 200), .int a1] M r N := by
  intro sz
  refine K_of (Qc := (fun sz => QI X 1 r N sz)) (own := RX10) (lv0 := [(0, .ref (X.2.2 200)), (1, .int a1)]) (by decide +kernel) rfl (Nat.le_of_ble_eq_true rfl) rfl (fun p e s m args below meth c S => ?_) sz
  · unfold f_X10_ledPast at he
    refine z_iconst (v := (-1)) S dX10_ledPast_0 (by decide) ?_
    refine z_istore_n (lv' := [(0, .ref (X.2.2 200)), (1, .int a1), (2, .int (-1))]) S [1, 2, 0] dX10_ledPast_1 rfl (by decide) rfl ?_
    refine z_iconst (v := 0) S dX10_ledPast_2 (by decide) ?_
    refine z_istore_n (lv' := [(0, .ref (X.2.2 200)), (1, .int a1), (2, .int (-1)), (3, .int 0)]) S [1, 2, 3, 0] dX10_ledPast_3 rfl (by decide) rfl ?_
    obtain ⟨e_5, hl, he⟩ := bnd he
    have hX : Z X 1 p l e rm_X10_ledPast s m args below meth c 0 0 (MQ below (QI X 1 r N s.heap.size) args s 0 0 (AA X 1 s.heap.size)) 5 e_5.1 127 [(2, .int e_5.2)] [] := by
      refine z_iload_n S dX10_ledPast_127 rfl 0 rfl ?_
      exact z_iret S (Prod.mk.inj (Option.some.inj he)) dX10_ledPast_128
    exact loopZ (Zh := (fun a_5 => Z X 1 p l e rm_X10_ledPast s m args below meth c 0 0 (MQ below (QI X 1 r N s.heap.size) args s 0 0 (AA X 1 s.heap.size)) 5 a_5.1 4 [(0, .ref (X.2.2 200)), (1, .int a1), (2, .int a_5.2.1), (3, .int a_5.2.2)] [])) (fun a_5 x hb hc hr => p_X10_ledPast_L4 S  hb hc (fun b hxe => by rw [hr b hxe]; exact hX)) FU _ hl
set_option maxRecDepth 100000 in
set_option maxHeartbeats 4000000 in
theorem p_X10_leads_J6_38 {X : Cx} {p : Program} {l : Launch} {e : Env} {s : State} {m : MethodId} {args : Array Value} {below : List Frame} {meth : Method} {c : Code} (S : SB X 1 p s m args meth c cX10_leads 3 none RX10) {M : Mm} {N : Mm} {v1 : Int32} {v2 : Int32} {x : (Mm × Int32) ⊕ Mm}  (he : f_X10_leads_J6_38 M v1 v2 = some x) (hc : ∀ b, x = .inl b → Z X 1 p l e rm_X10_leads s m args below meth c 0 0 (MQ below (QV X 1 N s.heap.size) args s 0 0 (AA X 1 s.heap.size)) 3 b.1 6 [(0, .ref (X.2.2 200)), (1, .int v1), (2, .int b.2)] []) (hx : ∀ b, x = .inr b → Z X 1 p l e rm_X10_leads s m args below meth c 0 0 (MQ below (QV X 1 N s.heap.size) args s 0 0 (AA X 1 s.heap.size)) 3 b 80 [] []) : Z X 1 p l e rm_X10_leads s m args below meth c 0 0 (MQ below (QV X 1 N s.heap.size) args s 0 0 (AA X 1 s.heap.size)) 3 M 38 [(0, .ref (X.2.2 200)), (1, .int v1), (2, .int v2)] [] := by
  unfold f_X10_leads_J6_38 at he
  refine z_aload_n S dX10_leads_38 rfl 0 rfl ?_
  refine z_getF (j := 208) S fo_RX10_35 8 rfl rfl ok_200 dX10_leads_39 ?_
  refine z_iload_n S dX10_leads_42 rfl 2 rfl ?_
  refine z_aload_n S dX10_leads_43 rfl 0 rfl ?_
  refine z_iload_n S dX10_leads_44 rfl 2 rfl ?_
  obtain ⟨⟨r2, M3⟩, h9, he⟩ := bnd he
  dsimp only at he
  refine z_cVI (As := [.int v2]) S cv_RX10_268 (K_X10_ledPast  h9) ok_200 (by decide) (q := (RX10, TX10, 28)) rfl rfl ⟨rfl, rfl⟩ ⟨Nat.le_of_ble_eq_true rfl, Nat.le_of_ble_eq_true rfl⟩ ⟨Nat.le_refl _, Nat.le_refl _⟩ rfl rfl (Nat.le_of_ble_eq_true rfl) dX10_leads_45 ?_
  refine z_iastb S ok_208 rfl he dX10_leads_48 (fun M4 he => ?_)
  refine z_aload_n S dX10_leads_49 rfl 0 rfl ?_
  refine z_getF (j := 208) S fo_RX10_35 8 rfl rfl ok_200 dX10_leads_50 ?_
  refine z_iload_n S dX10_leads_53 rfl 2 rfl ?_
  refine z_iald S ok_208 rfl he dX10_leads_54 (fun he => ?_)
  refine z_iconst (v := (-1)) S dX10_leads_55 (by decide) ?_
  refine z_icmp_eq (tgt := 74) S he dX10_leads_56 (by decide) (fun he => ?_) (fun he => ?_)
  · refine z_iinc (v := (v2 + 1)) (lv' := [(0, .ref (X.2.2 200)), (1, .int v1), (2, .int (v2 + 1))]) S [1, 2, 0] 2 dX10_leads_74 rfl (by rfl) (by decide) rfl ?_
    refine z_goto (tgt := 6) S dX10_leads_77 (by decide) ?_
    refine z_lv (ks := [0, 1, 2]) rfl ?_
    exact hc _ (Option.some.inj he).symm
  · refine z_aload_n S dX10_leads_59 rfl 0 rfl ?_
    refine z_getF (j := 210) S fo_RX10_41 10 rfl rfl ok_200 dX10_leads_60 ?_
    refine z_aload_n S dX10_leads_63 rfl 0 rfl ?_
    refine z_getF (j := 208) S fo_RX10_35 8 rfl rfl ok_200 dX10_leads_64 ?_
    refine z_iload_n S dX10_leads_67 rfl 2 rfl ?_
    refine z_iald S ok_208 rfl he dX10_leads_68 (fun he => ?_)
    refine z_dup2 S dX10_leads_69 rfl rfl ?_
    refine z_iald S ok_210 rfl he dX10_leads_70 (fun he => ?_)
    refine z_iconst (v := 1) S dX10_leads_71 (by decide) ?_
    refine z_iadd S dX10_leads_72 ?_
    refine z_iastb S ok_210 rfl he dX10_leads_73 (fun M5 he => ?_)
    refine z_iinc (v := (v2 + 1)) (lv' := [(0, .ref (X.2.2 200)), (1, .int v1), (2, .int (v2 + 1))]) S [1, 2, 0] 2 dX10_leads_74 rfl (by rfl) (by decide) rfl ?_
    refine z_goto (tgt := 6) S dX10_leads_77 (by decide) ?_
    refine z_lv (ks := [0, 1, 2]) rfl ?_
    exact hc _ (Option.some.inj he).symm
set_option maxRecDepth 100000 in
set_option maxHeartbeats 4000000 in
theorem p_X10_leads_L6 {X : Cx} {p : Program} {l : Launch} {e : Env} {s : State} {m : MethodId} {args : Array Value} {below : List Frame} {meth : Method} {c : Code} (S : SB X 1 p s m args meth c cX10_leads 3 none RX10) {M : Mm} {N : Mm} {v1 : Int32} {v2 : Int32} {x : (Mm × Int32) ⊕ Mm}  (he : f_X10_leads_L6 M v1 v2 = some x) (hc : ∀ b, x = .inl b → Z X 1 p l e rm_X10_leads s m args below meth c 0 0 (MQ below (QV X 1 N s.heap.size) args s 0 0 (AA X 1 s.heap.size)) 3 b.1 6 [(0, .ref (X.2.2 200)), (1, .int v1), (2, .int b.2)] []) (hx : ∀ b, x = .inr b → Z X 1 p l e rm_X10_leads s m args below meth c 0 0 (MQ below (QV X 1 N s.heap.size) args s 0 0 (AA X 1 s.heap.size)) 3 b 80 [] []) : Z X 1 p l e rm_X10_leads s m args below meth c 0 0 (MQ below (QV X 1 N s.heap.size) args s 0 0 (AA X 1 s.heap.size)) 3 M 6 [(0, .ref (X.2.2 200)), (1, .int v1), (2, .int v2)] [] := by
  unfold f_X10_leads_L6 at he
  refine z_iload_n S dX10_leads_6 rfl 2 rfl ?_
  refine z_aload_n S dX10_leads_7 rfl 0 rfl ?_
  refine z_getF (j := 201) S fo_RX10_7 1 rfl rfl ok_200 dX10_leads_8 ?_
  refine z_iconst (v := 4) S dX10_leads_11 (by decide) ?_
  refine z_iald S ok_201 rfl he dX10_leads_12 (fun he => ?_)
  refine z_icmp_ge (tgt := 80) S he dX10_leads_13 (by decide) (fun he => ?_) (fun he => ?_)
  · refine z_lv (ks := []) rfl ?_
    exact hx _ (Option.some.inj he).symm
  · refine z_iload_n S dX10_leads_16 rfl 1 rfl ?_
    refine z_if_eq (tgt := 38) S he dX10_leads_17 (by decide) (fun he => ?_) (fun he => ?_)
    · exact p_X10_leads_J6_38 S  he hc hx
    · refine z_aload_n S dX10_leads_20 rfl 0 rfl ?_
      refine z_bipush (v := 100) S dX10_leads_21 (by decide) ?_
      obtain ⟨⟨r6, M7⟩, h9, he⟩ := bnd he
      dsimp only at he
      refine z_cVI (As := [.int 100]) S cv_RX10_265 (K_X10_draw  h9) ok_200 (by decide) (q := (RX10, TX10, 28)) rfl rfl ⟨rfl, rfl⟩ ⟨Nat.le_of_ble_eq_true rfl, Nat.le_of_ble_eq_true rfl⟩ ⟨Nat.le_refl _, Nat.le_refl _⟩ rfl rfl (Nat.le_of_ble_eq_true rfl) dX10_leads_23 ?_
      refine z_aload_n S dX10_leads_26 rfl 0 rfl ?_
      refine z_iload_n S dX10_leads_27 rfl 2 rfl ?_
      refine z_iconst (v := 3) S dX10_leads_28 (by decide) ?_
      obtain ⟨r8, h9, he⟩ := bnd he
      refine z_cVI (As := [.int v2, .int 3]) S cv_RX10_246 (K_X10_ofOne  h9) ok_200 (by decide) (q := (RX10, TX10, 28)) rfl rfl ⟨rfl, rfl⟩ ⟨Nat.le_of_ble_eq_true rfl, Nat.le_of_ble_eq_true rfl⟩ ⟨Nat.le_refl _, Nat.le_refl _⟩ rfl rfl (Nat.le_of_ble_eq_true rfl) dX10_leads_29 ?_
      refine z_icmp_ge (tgt := 38) S he dX10_leads_32 (by decide) (fun he => ?_) (fun he => ?_)
      · exact p_X10_leads_J6_38 S  he hc hx
      · refine z_goto (tgt := 74) S dX10_leads_35 (by decide) ?_
        refine z_iinc (v := (v2 + 1)) (lv' := [(0, .ref (X.2.2 200)), (1, .int v1), (2, .int (v2 + 1))]) S [1, 2, 0] 2 dX10_leads_74 rfl (by rfl) (by decide) rfl ?_
        refine z_goto (tgt := 6) S dX10_leads_77 (by decide) ?_
        refine z_lv (ks := [0, 1, 2]) rfl ?_
        exact hc _ (Option.some.inj he).symm
set_option maxRecDepth 100000 in
set_option maxHeartbeats 4000000 in
theorem K_X10_leads {X : Cx} {l : Launch} {M : Mm} {a1 : Int32} {N : Mm}  (he : f_X10_leads M a1 = some N) : KV X 1 l yX10_leads (wz yX10_leads cX10_leads 3 none) rm_X10_leads [.ref (X.2.2 200), .int a1] M N := by
  intro sz
  refine K_of (Qc := (fun sz => QV X 1 N sz)) (own := RX10) (lv0 := [(0, .ref (X.2.2 200)), (1, .int a1)]) (by decide +kernel) rfl (Nat.le_of_ble_eq_true rfl) rfl (fun p e s m args below meth c S => ?_) sz
  · unfold f_X10_leads at he
    refine z_aload_n S dX10_leads_0 rfl 0 rfl ?_
    obtain ⟨M1, h9, he⟩ := bnd he
    refine z_cVV (As := []) S cv_RX10_262 (K_X10_beginsDay  h9) ok_200 (by decide) (q := (RX10, TX10, 28)) rfl rfl ⟨rfl, rfl⟩ ⟨Nat.le_of_ble_eq_true rfl, Nat.le_of_ble_eq_true rfl⟩ ⟨Nat.le_refl _, Nat.le_refl _⟩ rfl rfl (Nat.le_of_ble_eq_true rfl) dX10_leads_1 ?_
    refine z_iconst (v := 0) S dX10_leads_4 (by decide) ?_
    refine z_istore_n (lv' := [(0, .ref (X.2.2 200)), (1, .int a1), (2, .int 0)]) S [1, 2, 0] dX10_leads_5 rfl (by decide) rfl ?_
    obtain ⟨e_9, hl, he⟩ := bnd he
    have hX : Z X 1 p l e rm_X10_leads s m args below meth c 0 0 (MQ below (QV X 1 N s.heap.size) args s 0 0 (AA X 1 s.heap.size)) 3 e_9 80 [] [] := by
      exact z_vret S (Option.some.inj he) dX10_leads_80
    exact loopZ (Zh := (fun a_9 => Z X 1 p l e rm_X10_leads s m args below meth c 0 0 (MQ below (QV X 1 N s.heap.size) args s 0 0 (AA X 1 s.heap.size)) 3 a_9.1 6 [(0, .ref (X.2.2 200)), (1, .int a1), (2, .int a_9.2)] [])) (fun a_9 x hb hc hr => p_X10_leads_L6 S  hb hc (fun b hxe => by rw [hr b hxe]; exact hX)) FU _ hl
set_option maxRecDepth 100000 in
set_option maxHeartbeats 4000000 in
theorem K_X10_lesser {X : Cx} {l : Launch} {M : Mm} {a0 : Int32} {a1 : Int32} {r : Int32}  (he : f_X10_lesser M a0 a1 = r) : KI X 1 l yX10_lesser (wz yX10_lesser cX10_lesser 2 (some .int)) rm_X10_lesser [.int a0, .int a1] M r M := by
  intro sz
  refine K_of (Qc := (fun sz => QI X 1 r M sz)) (own := RX10) (lv0 := [(0, .int a0), (1, .int a1)]) (by decide +kernel) rfl (Nat.le_of_ble_eq_true rfl) rfl (fun p e s m args below meth c S => ?_) sz
  · unfold f_X10_lesser at he
    refine z_iload_n S dX10_lesser_0 rfl 0 rfl ?_
    refine z_iload_n S dX10_lesser_1 rfl 1 rfl ?_
    refine z_icmp_ge (tgt := 9) S he dX10_lesser_2 (by decide) (fun he => ?_) (fun he => ?_)
    · refine z_iload_n S dX10_lesser_9 rfl 1 rfl ?_
      exact z_iret S (⟨he, rfl⟩) dX10_lesser_10
    · refine z_iload_n S dX10_lesser_5 rfl 0 rfl ?_
      refine z_goto (tgt := 10) S dX10_lesser_6 (by decide) ?_
      exact z_iret S (⟨he, rfl⟩) dX10_lesser_10
set_option maxRecDepth 100000 in
set_option maxHeartbeats 4000000 in
theorem p_X10_hadBy_L4 {X : Cx} {p : Program} {l : Launch} {e : Env} {s : State} {m : MethodId} {args : Array Value} {below : List Frame} {meth : Method} {c : Code} (S : SB X 1 p s m args meth c cX10_hadBy 4 (some .int) RX10) {M : Mm} {r : Int32} {v1 : Int32} {v2 : Int32} {v3 : Int32} {x : (Int32 × Int32) ⊕ Int32}  (he : f_X10_hadBy_L4 M v1 v2 v3 = some x) (hc : ∀ b, x = .inl b → Z X 1 p l e rm_X10_hadBy s m args below meth c 0 0 (MQ below (QI X 1 r M s.heap.size) args s 0 0 (AA X 1 s.heap.size)) 4 M 4 [(0, .ref (X.2.2 200)), (1, .int v1), (2, .int b.1), (3, .int b.2)] []) (hx : ∀ b, x = .inr b → Z X 1 p l e rm_X10_hadBy s m args below meth c 0 0 (MQ below (QI X 1 r M s.heap.size) args s 0 0 (AA X 1 s.heap.size)) 4 M 40 [(2, .int b)] []) : Z X 1 p l e rm_X10_hadBy s m args below meth c 0 0 (MQ below (QI X 1 r M s.heap.size) args s 0 0 (AA X 1 s.heap.size)) 4 M 4 [(0, .ref (X.2.2 200)), (1, .int v1), (2, .int v2), (3, .int v3)] [] := by
  unfold f_X10_hadBy_L4 at he
  refine z_iload_n S dX10_hadBy_4 rfl 3 rfl ?_
  refine z_aload_n S dX10_hadBy_5 rfl 0 rfl ?_
  refine z_getF (j := 201) S fo_RX10_7 1 rfl rfl ok_200 dX10_hadBy_6 ?_
  refine z_iconst (v := 4) S dX10_hadBy_9 (by decide) ?_
  refine z_iald S ok_201 rfl he dX10_hadBy_10 (fun he => ?_)
  refine z_icmp_ge (tgt := 40) S he dX10_hadBy_11 (by decide) (fun he => ?_) (fun he => ?_)
  · refine z_lv (ks := [2]) rfl ?_
    exact hx _ (Option.some.inj he).symm
  · refine z_iload_n S dX10_hadBy_14 rfl 2 rfl ?_
    refine z_aload_n S dX10_hadBy_15 rfl 0 rfl ?_
    refine z_getF (j := 208) S fo_RX10_35 8 rfl rfl ok_200 dX10_hadBy_16 ?_
    refine z_iload_n S dX10_hadBy_19 rfl 3 rfl ?_
    refine z_iald S ok_208 rfl he dX10_hadBy_20 (fun he => ?_)
    refine z_iload_n S dX10_hadBy_21 rfl 1 rfl ?_
    refine z_icmp_ne (tgt := 31) S he dX10_hadBy_22 (by decide) (fun he => ?_) (fun he => ?_)
    · refine z_iconst (v := 0) S dX10_hadBy_31 (by decide) ?_
      refine z_ior S dX10_hadBy_32 ?_
      refine z_istore_n (lv' := [(0, .ref (X.2.2 200)), (1, .int v1), (2, .int (v2 ||| 0)), (3, .int v3)]) S [1, 2, 0, 3] dX10_hadBy_33 rfl (by decide) rfl ?_
      refine z_iinc (v := (v3 + 1)) (lv' := [(0, .ref (X.2.2 200)), (1, .int v1), (2, .int (v2 ||| 0)), (3, .int (v3 + 1))]) S [1, 2, 3, 0] 3 dX10_hadBy_34 rfl (by rfl) (by decide) rfl ?_
      refine z_goto (tgt := 4) S dX10_hadBy_37 (by decide) ?_
      refine z_lv (ks := [0, 1, 2, 3]) rfl ?_
      exact hc _ (Option.some.inj he).symm
    · refine z_iconst (v := 1) S dX10_hadBy_25 (by decide) ?_
      refine z_iload_n S dX10_hadBy_26 rfl 3 rfl ?_
      refine z_ishl S dX10_hadBy_27 ?_
      refine z_goto (tgt := 32) S dX10_hadBy_28 (by decide) ?_
      refine z_ior S dX10_hadBy_32 ?_
      obtain ⟨x1, ex1, he⟩ := bnd he
      rw [Option.some.inj ex1]
      refine z_istore_n (lv' := [(0, .ref (X.2.2 200)), (1, .int v1), (2, .int x1), (3, .int v3)]) S [1, 2, 0, 3] dX10_hadBy_33 rfl (by decide) rfl ?_
      refine z_iinc (v := (v3 + 1)) (lv' := [(0, .ref (X.2.2 200)), (1, .int v1), (2, .int x1), (3, .int (v3 + 1))]) S [1, 2, 3, 0] 3 dX10_hadBy_34 rfl (by rfl) (by decide) rfl ?_
      refine z_goto (tgt := 4) S dX10_hadBy_37 (by decide) ?_
      refine z_lv (ks := [0, 1, 2, 3]) rfl ?_
      exact hc _ (Option.some.inj he).symm
set_option maxRecDepth 100000 in
set_option maxHeartbeats 4000000 in
theorem K_X10_hadBy {X : Cx} {l : Launch} {M : Mm} {a1 : Int32} {r : Int32}  (he : f_X10_hadBy M a1 = some r) : KI X 1 l yX10_hadBy (wz yX10_hadBy cX10_hadBy 4 (some .int)) rm_X10_hadBy [.ref (X.2.2 200), .int a1] M r M := by
  intro sz
  refine K_of (Qc := (fun sz => QI X 1 r M sz)) (own := RX10) (lv0 := [(0, .ref (X.2.2 200)), (1, .int a1)]) (by decide +kernel) rfl (Nat.le_of_ble_eq_true rfl) rfl (fun p e s m args below meth c S => ?_) sz
  · unfold f_X10_hadBy at he
    refine z_iconst (v := 0) S dX10_hadBy_0 (by decide) ?_
    refine z_istore_n (lv' := [(0, .ref (X.2.2 200)), (1, .int a1), (2, .int 0)]) S [1, 2, 0] dX10_hadBy_1 rfl (by decide) rfl ?_
    refine z_iconst (v := 0) S dX10_hadBy_2 (by decide) ?_
    refine z_istore_n (lv' := [(0, .ref (X.2.2 200)), (1, .int a1), (2, .int 0), (3, .int 0)]) S [1, 2, 3, 0] dX10_hadBy_3 rfl (by decide) rfl ?_
    obtain ⟨e_2, hl, he⟩ := bnd he
    have hX : Z X 1 p l e rm_X10_hadBy s m args below meth c 0 0 (MQ below (QI X 1 r M s.heap.size) args s 0 0 (AA X 1 s.heap.size)) 4 M 40 [(2, .int e_2)] [] := by
      refine z_iload_n S dX10_hadBy_40 rfl 0 rfl ?_
      exact z_iret S (⟨Option.some.inj he, rfl⟩) dX10_hadBy_41
    exact loopZ (Zh := (fun a_2 => Z X 1 p l e rm_X10_hadBy s m args below meth c 0 0 (MQ below (QI X 1 r M s.heap.size) args s 0 0 (AA X 1 s.heap.size)) 4 M 4 [(0, .ref (X.2.2 200)), (1, .int a1), (2, .int a_2.1), (3, .int a_2.2)] [])) (fun a_2 x hb hc hr => p_X10_hadBy_L4 S  hb hc (fun b hxe => by rw [hr b hxe]; exact hX)) FU _ hl
set_option maxRecDepth 100000 in
set_option maxHeartbeats 4000000 in
theorem p_X10_comesBack_L2 {X : Cx} {p : Program} {l : Launch} {e : Env} {s : State} {m : MethodId} {args : Array Value} {below : List Frame} {meth : Method} {c : Code} (S : SB X 1 p s m args meth c cX10_comesBack 2 none RX10) {M : Mm} {N : Mm} {v1 : Int32} {x : (Mm × Int32) ⊕ Mm}  (he : f_X10_comesBack_L2 M v1 = some x) (hc : ∀ b, x = .inl b → Z X 1 p l e rm_X10_comesBack s m args below meth c 0 0 (MQ below (QV X 1 N s.heap.size) args s 0 0 (AA X 1 s.heap.size)) 2 b.1 2 [(0, .ref (X.2.2 200)), (1, .int b.2)] []) (hx : ∀ b, x = .inr b → Z X 1 p l e rm_X10_comesBack s m args below meth c 0 0 (MQ below (QV X 1 N s.heap.size) args s 0 0 (AA X 1 s.heap.size)) 2 b 27 [] []) : Z X 1 p l e rm_X10_comesBack s m args below meth c 0 0 (MQ below (QV X 1 N s.heap.size) args s 0 0 (AA X 1 s.heap.size)) 2 M 2 [(0, .ref (X.2.2 200)), (1, .int v1)] [] := by
  unfold f_X10_comesBack_L2 at he
  refine z_iload_n S dX10_comesBack_2 rfl 1 rfl ?_
  refine z_sipush (v := 407) S dX10_comesBack_3 (by decide) ?_
  refine z_icmp_ge (tgt := 27) S he dX10_comesBack_6 (by decide) (fun he => ?_) (fun he => ?_)
  · refine z_lv (ks := []) rfl ?_
    exact hx _ (Option.some.inj he).symm
  · refine z_aload_n S dX10_comesBack_9 rfl 0 rfl ?_
    refine z_getF (j := 201) S fo_RX10_7 1 rfl rfl ok_200 dX10_comesBack_10 ?_
    refine z_iload_n S dX10_comesBack_13 rfl 1 rfl ?_
    refine z_aload_n S dX10_comesBack_14 rfl 0 rfl ?_
    refine z_getF (j := 203) S fo_RX10_16 3 rfl rfl ok_200 dX10_comesBack_15 ?_
    refine z_iload_n S dX10_comesBack_18 rfl 1 rfl ?_
    refine z_iald S ok_203 rfl he dX10_comesBack_19 (fun he => ?_)
    refine z_iastb S ok_201 rfl he dX10_comesBack_20 (fun M1 he => ?_)
    refine z_iinc (v := (v1 + 1)) (lv' := [(0, .ref (X.2.2 200)), (1, .int (v1 + 1))]) S [1, 0] 1 dX10_comesBack_21 rfl (by rfl) (by decide) rfl ?_
    refine z_goto (tgt := 2) S dX10_comesBack_24 (by decide) ?_
    refine z_lv (ks := [0, 1]) rfl ?_
    exact hc _ (Option.some.inj he).symm
set_option maxRecDepth 100000 in
set_option maxHeartbeats 4000000 in
theorem K_X10_comesBack {X : Cx} {l : Launch} {M : Mm} {N : Mm}  (he : f_X10_comesBack M  = some N) : KV X 1 l yX10_comesBack (wz yX10_comesBack cX10_comesBack 2 none) rm_X10_comesBack [.ref (X.2.2 200)] M N := by
  intro sz
  refine K_of (Qc := (fun sz => QV X 1 N sz)) (own := RX10) (lv0 := [(0, .ref (X.2.2 200))]) (by decide +kernel) rfl (Nat.le_of_ble_eq_true rfl) rfl (fun p e s m args below meth c S => ?_) sz
  · unfold f_X10_comesBack at he
    refine z_iconst (v := 0) S dX10_comesBack_0 (by decide) ?_
    refine z_istore_n (lv' := [(0, .ref (X.2.2 200)), (1, .int 0)]) S [1, 0] dX10_comesBack_1 rfl (by decide) rfl ?_
    obtain ⟨e_2, hl, he⟩ := bnd he
    have hX : Z X 1 p l e rm_X10_comesBack s m args below meth c 0 0 (MQ below (QV X 1 N s.heap.size) args s 0 0 (AA X 1 s.heap.size)) 2 e_2 27 [] [] := by
      exact z_vret S (Option.some.inj he) dX10_comesBack_27
    exact loopZ (Zh := (fun a_2 => Z X 1 p l e rm_X10_comesBack s m args below meth c 0 0 (MQ below (QV X 1 N s.heap.size) args s 0 0 (AA X 1 s.heap.size)) 2 a_2.1 2 [(0, .ref (X.2.2 200)), (1, .int a_2.2)] [])) (fun a_2 x hb hc hr => p_X10_comesBack_L2 S  hb hc (fun b hxe => by rw [hr b hxe]; exact hX)) FU _ hl
set_option maxRecDepth 100000 in
set_option maxHeartbeats 4000000 in
theorem p_X10_ringsFor_L4 {X : Cx} {p : Program} {l : Launch} {e : Env} {s : State} {m : MethodId} {args : Array Value} {below : List Frame} {meth : Method} {c : Code} (S : SB X 1 p s m args meth c cX10_ringsFor 4 (some .int) RX10) {M : Mm} {r : Int32} {v1 : Int32} {v2 : Int32} {v3 : Int32} {x : (Int32 × Int32) ⊕ Int32}  (he : f_X10_ringsFor_L4 M v1 v2 v3 = some x) (hc : ∀ b, x = .inl b → Z X 1 p l e rm_X10_ringsFor s m args below meth c 0 0 (MQ below (QI X 1 r M s.heap.size) args s 0 0 (AA X 1 s.heap.size)) 4 M 4 [(0, .ref (X.2.2 200)), (1, .int v1), (2, .int b.1), (3, .int b.2)] []) (hx : ∀ b, x = .inr b → Z X 1 p l e rm_X10_ringsFor s m args below meth c 0 0 (MQ below (QI X 1 r M s.heap.size) args s 0 0 (AA X 1 s.heap.size)) 4 M 39 [(2, .int b)] []) : Z X 1 p l e rm_X10_ringsFor s m args below meth c 0 0 (MQ below (QI X 1 r M s.heap.size) args s 0 0 (AA X 1 s.heap.size)) 4 M 4 [(0, .ref (X.2.2 200)), (1, .int v1), (2, .int v2), (3, .int v3)] [] := by
  unfold f_X10_ringsFor_L4 at he
  refine z_iload_n S dX10_ringsFor_4 rfl 3 rfl ?_
  refine z_aload_n S dX10_ringsFor_5 rfl 0 rfl ?_
  refine z_getF (j := 201) S fo_RX10_7 1 rfl rfl ok_200 dX10_ringsFor_6 ?_
  refine z_iconst (v := 4) S dX10_ringsFor_9 (by decide) ?_
  refine z_iald S ok_201 rfl he dX10_ringsFor_10 (fun he => ?_)
  refine z_icmp_ge (tgt := 39) S he dX10_ringsFor_11 (by decide) (fun he => ?_) (fun he => ?_)
  · refine z_lv (ks := [2]) rfl ?_
    exact hx _ (Option.some.inj he).symm
  · refine z_iload_n S dX10_ringsFor_14 rfl 2 rfl ?_
    refine z_aload_n S dX10_ringsFor_15 rfl 0 rfl ?_
    refine z_iload_n S dX10_ringsFor_16 rfl 1 rfl ?_
    refine z_iload_n S dX10_ringsFor_17 rfl 3 rfl ?_
    obtain ⟨r1, h9, he⟩ := bnd he
    refine z_cVI (As := [.int v1, .int v3]) S cv_RX10_259 (K_X10_canHave  h9) ok_200 (by decide) (q := (RX10, TX10, 28)) rfl rfl ⟨rfl, rfl⟩ ⟨Nat.le_of_ble_eq_true rfl, Nat.le_of_ble_eq_true rfl⟩ ⟨Nat.le_refl _, Nat.le_refl _⟩ rfl rfl (Nat.le_of_ble_eq_true rfl) dX10_ringsFor_18 ?_
    refine z_ifb_eq (tgt := 30) S he dX10_ringsFor_21 (by decide) (fun he => ?_) (fun he => ?_)
    · refine z_iconst (v := 0) S dX10_ringsFor_30 (by decide) ?_
      refine z_ior S dX10_ringsFor_31 ?_
      refine z_istore_n (lv' := [(0, .ref (X.2.2 200)), (1, .int v1), (2, .int (v2 ||| 0)), (3, .int v3)]) S [1, 2, 0, 3] dX10_ringsFor_32 rfl (by decide) rfl ?_
      refine z_iinc (v := (v3 + 1)) (lv' := [(0, .ref (X.2.2 200)), (1, .int v1), (2, .int (v2 ||| 0)), (3, .int (v3 + 1))]) S [1, 2, 3, 0] 3 dX10_ringsFor_33 rfl (by rfl) (by decide) rfl ?_
      refine z_goto (tgt := 4) S dX10_ringsFor_36 (by decide) ?_
      refine z_lv (ks := [0, 1, 2, 3]) rfl ?_
      exact hc _ (Option.some.inj he).symm
    · refine z_iconst (v := 1) S dX10_ringsFor_24 (by decide) ?_
      refine z_iload_n S dX10_ringsFor_25 rfl 3 rfl ?_
      refine z_ishl S dX10_ringsFor_26 ?_
      refine z_goto (tgt := 31) S dX10_ringsFor_27 (by decide) ?_
      refine z_ior S dX10_ringsFor_31 ?_
      obtain ⟨x2, ex2, he⟩ := bnd he
      rw [Option.some.inj ex2]
      refine z_istore_n (lv' := [(0, .ref (X.2.2 200)), (1, .int v1), (2, .int x2), (3, .int v3)]) S [1, 2, 0, 3] dX10_ringsFor_32 rfl (by decide) rfl ?_
      refine z_iinc (v := (v3 + 1)) (lv' := [(0, .ref (X.2.2 200)), (1, .int v1), (2, .int x2), (3, .int (v3 + 1))]) S [1, 2, 3, 0] 3 dX10_ringsFor_33 rfl (by rfl) (by decide) rfl ?_
      refine z_goto (tgt := 4) S dX10_ringsFor_36 (by decide) ?_
      refine z_lv (ks := [0, 1, 2, 3]) rfl ?_
      exact hc _ (Option.some.inj he).symm
set_option maxRecDepth 100000 in
set_option maxHeartbeats 4000000 in
theorem K_X10_ringsFor {X : Cx} {l : Launch} {M : Mm} {a1 : Int32} {r : Int32}  (he : f_X10_ringsFor M a1 = some r) : KI X 1 l yX10_ringsFor (wz yX10_ringsFor cX10_ringsFor 4 (some .int)) rm_X10_ringsFor [.ref (X.2.2 200), .int a1] M r M := by
  intro sz
  refine K_of (Qc := (fun sz => QI X 1 r M sz)) (own := RX10) (lv0 := [(0, .ref (X.2.2 200)), (1, .int a1)]) (by decide +kernel) rfl (Nat.le_of_ble_eq_true rfl) rfl (fun p e s m args below meth c S => ?_) sz
  · unfold f_X10_ringsFor at he
    refine z_iconst (v := 0) S dX10_ringsFor_0 (by decide) ?_
    refine z_istore_n (lv' := [(0, .ref (X.2.2 200)), (1, .int a1), (2, .int 0)]) S [1, 2, 0] dX10_ringsFor_1 rfl (by decide) rfl ?_
    refine z_iconst (v := 0) S dX10_ringsFor_2 (by decide) ?_
    refine z_istore_n (lv' := [(0, .ref (X.2.2 200)), (1, .int a1), (2, .int 0), (3, .int 0)]) S [1, 2, 3, 0] dX10_ringsFor_3 rfl (by decide) rfl ?_
    obtain ⟨e_3, hl, he⟩ := bnd he
    have hX : Z X 1 p l e rm_X10_ringsFor s m args below meth c 0 0 (MQ below (QI X 1 r M s.heap.size) args s 0 0 (AA X 1 s.heap.size)) 4 M 39 [(2, .int e_3)] [] := by
      refine z_iload_n S dX10_ringsFor_39 rfl 0 rfl ?_
      exact z_iret S (⟨Option.some.inj he, rfl⟩) dX10_ringsFor_40
    exact loopZ (Zh := (fun a_3 => Z X 1 p l e rm_X10_ringsFor s m args below meth c 0 0 (MQ below (QI X 1 r M s.heap.size) args s 0 0 (AA X 1 s.heap.size)) 4 M 4 [(0, .ref (X.2.2 200)), (1, .int a1), (2, .int a_3.1), (3, .int a_3.2)] [])) (fun a_3 x hb hc hr => p_X10_ringsFor_L4 S  hb hc (fun b hxe => by rw [hr b hxe]; exact hX)) FU _ hl
