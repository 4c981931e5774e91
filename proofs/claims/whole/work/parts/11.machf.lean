set_option maxRecDepth 100000 in
set_option maxHeartbeats 4000000 in
theorem p_X10_undo_L26 {X : Cx} {p : Program} {l : Launch} {e : Env} {s : State} {m : MethodId} {args : Array Value} {below : List Frame} {meth : Method} {c : Code} (S : SB X 1 p s m args meth c cX10_undo 2 (some .boolean) RX10) {M : Mm} {N : Mm} {r : Bool} {v1 : Int32} {x : (Mm × Int32) ⊕ Mm}  (he : f_X10_undo_L26 M v1 = some x) (hc : ∀ b, x = .inl b → Z X 1 p l e rm_X10_undo s m args below meth c 0 0 (MQ below (QI X 1 (bI r) N s.heap.size) args s 0 0 (AA X 1 s.heap.size)) 2 b.1 26 [(0, .ref (X.2.2 109)), (1, .int b.2)] []) (hx : ∀ b, x = .inr b → Z X 1 p l e rm_X10_undo s m args below meth c 0 0 (MQ below (QI X 1 (bI r) N s.heap.size) args s 0 0 (AA X 1 s.heap.size)) 2 b 60 [] []) : Z X 1 p l e rm_X10_undo s m args below meth c 0 0 (MQ below (QI X 1 (bI r) N s.heap.size) args s 0 0 (AA X 1 s.heap.size)) 2 M 26 [(0, .ref (X.2.2 109)), (1, .int v1)] [] := by
  unfold f_X10_undo_L26 at he
  refine z_iload_n S dX10_undo_26 rfl 1 rfl ?_
  refine z_sipush (v := 407) S dX10_undo_27 (by decide) ?_
  refine z_icmp_ge (tgt := 60) S he dX10_undo_30 (by decide) (fun he => ?_) (fun he => ?_)
  · refine z_lv (ks := []) rfl ?_
    exact hx _ (Option.some.inj he).symm
  · refine z_aload_n S dX10_undo_33 rfl 0 rfl ?_
    refine z_getF (j := 110) S fo_RX10_7 1 rfl rfl ok_109 dX10_undo_34 ?_
    refine z_iload_n S dX10_undo_37 rfl 1 rfl ?_
    refine z_aload_n S dX10_undo_38 rfl 0 rfl ?_
    refine z_getF (j := 113) S fo_RX10_19 4 rfl rfl ok_109 dX10_undo_39 ?_
    refine z_sipush (v := 407) S dX10_undo_42 (by decide) ?_
    refine z_aload_n S dX10_undo_45 rfl 0 rfl ?_
    refine z_getI S fo_RX10_184 rfl ok_109 dX10_undo_46 ?_
    refine z_imul S dX10_undo_49 ?_
    refine z_iload_n S dX10_undo_50 rfl 1 rfl ?_
    refine z_iadd S dX10_undo_51 ?_
    refine z_iald S ok_113 rfl he dX10_undo_52 (fun he => ?_)
    refine z_iastb S ok_110 rfl he dX10_undo_53 (fun M3 he => ?_)
    refine z_iinc (v := (v1 + 1)) (lv' := [(0, .ref (X.2.2 109)), (1, .int (v1 + 1))]) S [1, 0] 1 dX10_undo_54 rfl (by rfl) (by decide) rfl ?_
    refine z_goto (tgt := 26) S dX10_undo_57 (by decide) ?_
    refine z_lv (ks := [0, 1]) rfl ?_
    exact hc _ (Option.some.inj he).symm
set_option maxRecDepth 100000 in
set_option maxHeartbeats 4000000 in
theorem K_X10_undo {X : Cx} {l : Launch} {M : Mm} {r : Bool} {N : Mm}  (he : f_X10_undo M  = some (r, N)) : KI X 1 l yX10_undo (wz yX10_undo cX10_undo 2 (some .boolean)) rm_X10_undo [.ref (X.2.2 109)] M (bI r) N := by
  intro sz
  refine K_of (Qc := (fun sz => QI X 1 (bI r) N sz)) (own := RX10) (lv0 := [(0, .ref (X.2.2 109))]) (by decide +kernel) rfl (Nat.le_of_ble_eq_true rfl) rfl (fun p e s m args below meth c S => ?_) sz
  · unfold f_X10_undo at he
    refine z_aload_n S dX10_undo_0 rfl 0 rfl ?_
    refine z_iconst (v := 0) S dX10_undo_1 (by decide) ?_
    refine z_putIb S fo_RX10_63p rfl ok_109 rfl rfl he dX10_undo_2 (fun M1 he => ?_)
    refine z_aload_n S dX10_undo_5 rfl 0 rfl ?_
    refine z_getI S fo_RX10_184 rfl ok_109 dX10_undo_6 ?_
    refine z_if_ne (tgt := 14) S he dX10_undo_9 (by decide) (fun he => ?_) (fun he => ?_)
    · refine z_aload_n S dX10_undo_14 rfl 0 rfl ?_
      refine z_dup S rfl dX10_undo_15 ?_
      refine z_getI S fo_RX10_184 rfl ok_109 dX10_undo_16 ?_
      refine z_iconst (v := 1) S dX10_undo_19 (by decide) ?_
      refine z_isub S dX10_undo_20 ?_
      refine z_putIb S fo_RX10_184p rfl ok_109 rfl rfl he dX10_undo_21 (fun M2 he => ?_)
      refine z_iconst (v := 0) S dX10_undo_24 (by decide) ?_
      refine z_istore_n (lv' := [(0, .ref (X.2.2 109)), (1, .int 0)]) S [1, 0] dX10_undo_25 rfl (by decide) rfl ?_
      obtain ⟨e_4, hl, he⟩ := bnd he
      have hX : Z X 1 p l e rm_X10_undo s m args below meth c 0 0 (MQ below (QI X 1 (bI r) N s.heap.size) args s 0 0 (AA X 1 s.heap.size)) 2 e_4 60 [] [] := by
        refine z_iconst (v := 1) S dX10_undo_60 (by decide) ?_
        exact z_zret1 S (Prod.mk.inj (Option.some.inj he)) dX10_undo_61
      have hZ9 := loopZ (f := (fun a_4 => f_X10_undo_L26 a_4.1 a_4.2)) (Zh := (fun a_4 => Z X 1 p l e rm_X10_undo s m args below meth c 0 0 (MQ below (QI X 1 (bI r) N s.heap.size) args s 0 0 (AA X 1 s.heap.size)) 2 a_4.1 26 [(0, .ref (X.2.2 109)), (1, .int a_4.2)] [])) (fun a_4 x hb hc hr => p_X10_undo_L26 S  hb hc (fun b hxe => by rw [hr b hxe]; exact hX)) FU (M2, 0) hl
      exact hZ9
    · refine z_iconst (v := 0) S dX10_undo_12 (by decide) ?_
      exact z_zret0 S (Prod.mk.inj (Option.some.inj he)) dX10_undo_13
set_option maxRecDepth 100000 in
set_option maxHeartbeats 4000000 in
theorem p_X10_visitor_J28 {X : Cx} {p : Program} {l : Launch} {e : Env} {s : State} {m : MethodId} {args : Array Value} {below : List Frame} {meth : Method} {c : Code} (S : SB X 1 p s m args meth c cX10_visitor 3 (some .int) RX10) {M : Mm} {N : Mm} {r : Int32} {v1 : Int32} {v2 : Int32} {t0 : Int32}  (he : f_X10_visitor_J28 M v1 v2 t0 = some (r, N)) : Z X 1 p l e rm_X10_visitor s m args below meth c 0 0 (MQ below (QI X 1 r N s.heap.size) args s 0 0 (AA X 1 s.heap.size)) 3 M 28 [(0, .ref (X.2.2 109)), (1, .int v1), (2, .int v2)] [.int t0, .ref (X.2.2 109)] := by
  unfold f_X10_visitor_J28 at he
  refine z_putIb S fo_RX10_63p rfl ok_109 rfl rfl he dX10_visitor_28 (fun M2 he => ?_)
  refine z_aload_n S dX10_visitor_31 rfl 0 rfl ?_
  refine z_getI S fo_RX10_63 rfl ok_109 dX10_visitor_32 ?_
  refine z_if_le (tgt := 40) S he dX10_visitor_35 (by decide) (fun he => ?_) (fun he => ?_)
  · refine z_iload_n S dX10_visitor_40 rfl 2 rfl ?_
    refine z_iconst (v := 5) S dX10_visitor_41 (by decide) ?_
    refine z_icmp_ge (tgt := 52) S he dX10_visitor_42 (by decide) (fun he => ?_) (fun he => ?_)
    · refine z_aload_n S dX10_visitor_52 rfl 0 rfl ?_
      obtain ⟨M3, h9, he⟩ := bnd he
      refine z_cVV (As := []) S cv_RX10_288 (K_X10_tomorrow  h9) ok_109 (by decide) (q := (RX10, TX10, 28)) rfl rfl ⟨rfl, rfl⟩ ⟨Nat.le_of_ble_eq_true rfl, Nat.le_of_ble_eq_true rfl⟩ ⟨Nat.le_refl _, Nat.le_refl _⟩ rfl rfl (Nat.le_of_ble_eq_true rfl) dX10_visitor_53 ?_
      refine z_iload_n S dX10_visitor_56 rfl 2 rfl ?_
      refine z_iconst (v := 5) S dX10_visitor_57 (by decide) ?_
      refine z_icmp_ne (tgt := 69) S he dX10_visitor_58 (by decide) (fun he => ?_) (fun he => ?_)
      · refine z_iload_n S dX10_visitor_69 rfl 2 rfl ?_
        refine z_bipush (v := 6) S dX10_visitor_70 (by decide) ?_
        refine z_icmp_ne (tgt := 84) S he dX10_visitor_72 (by decide) (fun he => ?_) (fun he => ?_)
        · refine z_aload_n S dX10_visitor_84 rfl 0 rfl ?_
          refine z_getF (j := 118) S fo_RX10_38 9 rfl rfl ok_109 dX10_visitor_85 ?_
          refine z_iload_n S dX10_visitor_88 rfl 1 rfl ?_
          refine z_iald S ok_118 rfl he dX10_visitor_89 (fun he => ?_)
          exact z_iret S (Prod.mk.inj (Option.some.inj he)) dX10_visitor_90
        · refine z_aload_n S dX10_visitor_75 rfl 0 rfl ?_
          refine z_getF (j := 117) S fo_RX10_35 8 rfl rfl ok_109 dX10_visitor_76 ?_
          refine z_iload_n S dX10_visitor_79 rfl 1 rfl ?_
          refine z_iald S ok_117 rfl he dX10_visitor_80 (fun he => ?_)
          refine z_goto (tgt := 90) S dX10_visitor_81 (by decide) ?_
          exact z_iret S (Prod.mk.inj (Option.some.inj he)) dX10_visitor_90
      · refine z_aload_n S dX10_visitor_61 rfl 0 rfl ?_
        refine z_iload_n S dX10_visitor_62 rfl 1 rfl ?_
        obtain ⟨r4, h9, he⟩ := bnd he
        refine z_cVI (As := [.int v1]) S cv_RX10_303 (K_X10_ringing  h9) ok_109 (by decide) (q := (RX10, TX10, 28)) rfl rfl ⟨rfl, rfl⟩ ⟨Nat.le_of_ble_eq_true rfl, Nat.le_of_ble_eq_true rfl⟩ ⟨Nat.le_refl _, Nat.le_refl _⟩ rfl rfl (Nat.le_of_ble_eq_true rfl) dX10_visitor_63 ?_
        refine z_goto (tgt := 90) S dX10_visitor_66 (by decide) ?_
        exact z_iret S (Prod.mk.inj (Option.some.inj he)) dX10_visitor_90
    · refine z_aload_n S dX10_visitor_45 rfl 0 rfl ?_
      refine z_iload_n S dX10_visitor_46 rfl 1 rfl ?_
      refine z_iload_n S dX10_visitor_47 rfl 2 rfl ?_
      obtain ⟨r5, h9, he⟩ := bnd he
      refine z_cVI (As := [.int v1, .int v2]) S cv_RX10_246 (K_X10_ofOne  h9) ok_109 (by decide) (q := (RX10, TX10, 28)) rfl rfl ⟨rfl, rfl⟩ ⟨Nat.le_of_ble_eq_true rfl, Nat.le_of_ble_eq_true rfl⟩ ⟨Nat.le_refl _, Nat.le_refl _⟩ rfl rfl (Nat.le_of_ble_eq_true rfl) dX10_visitor_48 ?_
      exact z_iret S (Prod.mk.inj (Option.some.inj he)) dX10_visitor_51
  · refine z_iconst (v := 0) S dX10_visitor_38 (by decide) ?_
    exact z_iret S (Prod.mk.inj (Option.some.inj he)) dX10_visitor_39
set_option maxRecDepth 100000 in
set_option maxHeartbeats 4000000 in
theorem K_X10_visitor {X : Cx} {l : Launch} {M : Mm} {a1 : Int32} {a2 : Int32} {r : Int32} {N : Mm}  (he : f_X10_visitor M a1 a2 = some (r, N)) : KI X 1 l yX10_visitor (wz yX10_visitor cX10_visitor 3 (some .int)) rm_X10_visitor [.ref (X.2.2 109), .int a1, .int a2] M r N := by
  intro sz
  refine K_of (Qc := (fun sz => QI X 1 r N sz)) (own := RX10) (lv0 := [(0, .ref (X.2.2 109)), (1, .int a1), (2, .int a2)]) (by decide +kernel) rfl (Nat.le_of_ble_eq_true rfl) rfl (fun p e s m args below meth c S => ?_) sz
  · unfold f_X10_visitor at he
    refine z_aload_n S dX10_visitor_0 rfl 0 rfl ?_
    refine z_aload_n S dX10_visitor_1 rfl 0 rfl ?_
    refine z_iload_n S dX10_visitor_2 rfl 1 rfl ?_
    obtain ⟨r1, h9, he⟩ := bnd he
    refine z_cVI (As := [.int a1]) S cv_RX10_300 (K_X10_isVisitor  h9) ok_109 (by decide) (q := (RX10, TX10, 28)) rfl rfl ⟨rfl, rfl⟩ ⟨Nat.le_of_ble_eq_true rfl, Nat.le_of_ble_eq_true rfl⟩ ⟨Nat.le_refl _, Nat.le_refl _⟩ rfl rfl (Nat.le_of_ble_eq_true rfl) dX10_visitor_3 ?_
    refine z_ifb_ne (tgt := 13) S he dX10_visitor_6 (by decide) (fun he => ?_) (fun he => ?_)
    · refine z_iload_n S dX10_visitor_13 rfl 2 rfl ?_
      refine z_iconst (v := 0) S dX10_visitor_14 (by decide) ?_
      refine z_bipush (v := 7) S dX10_visitor_15 (by decide) ?_
      refine z_cSI (As := [.int a2, .int 0, .int 7]) S cs_RX10_66 (K_X10_isIn  rfl) ⟨rfl, rfl⟩ ⟨Nat.le_of_ble_eq_true rfl, Nat.le_of_ble_eq_true rfl⟩ ⟨Nat.le_refl _, Nat.le_refl _⟩ rfl rfl (Nat.le_of_ble_eq_true rfl) dX10_visitor_17 ?_
      refine z_ifb_ne (tgt := 27) S he dX10_visitor_20 (by decide) (fun he => ?_) (fun he => ?_)
      · refine z_iconst (v := 0) S dX10_visitor_27 (by decide) ?_
        exact p_X10_visitor_J28 S  he
      · refine z_iconst (v := 2) S dX10_visitor_23 (by decide) ?_
        refine z_goto (tgt := 28) S dX10_visitor_24 (by decide) ?_
        exact p_X10_visitor_J28 S  he
    · refine z_iconst (v := 1) S dX10_visitor_9 (by decide) ?_
      refine z_goto (tgt := 28) S dX10_visitor_10 (by decide) ?_
      exact p_X10_visitor_J28 S  he
set_option maxRecDepth 100000 in
set_option maxHeartbeats 4000000 in
theorem p_X10_wants_L39 {X : Cx} {p : Program} {l : Launch} {e : Env} {s : State} {m : MethodId} {args : Array Value} {below : List Frame} {meth : Method} {c : Code} (S : SB X 1 p s m args meth c cX10_wants 5 (some .int) RX10) {M : Mm} {N : Mm} {r : Int32} {v3 : Int32} {v4 : Int32} {x : (Int32 × Int32) ⊕ Int32}  (he : f_X10_wants_L39 M v3 v4 = some x) (hc : ∀ b, x = .inl b → Z X 1 p l e rm_X10_wants s m args below meth c 0 0 (MQ below (QI X 1 r N s.heap.size) args s 0 0 (AA X 1 s.heap.size)) 5 M 39 [(0, .ref (X.2.2 109)), (3, .int b.1), (4, .int b.2)] []) (hx : ∀ b, x = .inr b → Z X 1 p l e rm_X10_wants s m args below meth c 0 0 (MQ below (QI X 1 r N s.heap.size) args s 0 0 (AA X 1 s.heap.size)) 5 M 82 [(3, .int b)] []) : Z X 1 p l e rm_X10_wants s m args below meth c 0 0 (MQ below (QI X 1 r N s.heap.size) args s 0 0 (AA X 1 s.heap.size)) 5 M 39 [(0, .ref (X.2.2 109)), (3, .int v3), (4, .int v4)] [] := by
  unfold f_X10_wants_L39 at he
  refine z_iload S dX10_wants_39 2 rfl ?_
  refine z_bipush (v := 64) S dX10_wants_41 (by decide) ?_
  refine z_icmp_ge (tgt := 82) S he dX10_wants_43 (by decide) (fun he => ?_) (fun he => ?_)
  · refine z_lv (ks := [1]) rfl ?_
    exact hx _ (Option.some.inj he).symm
  · refine z_aload_n S dX10_wants_46 rfl 0 rfl ?_
    refine z_getF (j := 125) S fo_RX10_59 16 rfl rfl ok_109 dX10_wants_47 ?_
    refine z_iload S dX10_wants_50 2 rfl ?_
    refine z_zald S ok_125 rfl he dX10_wants_52 (fun he => ?_)
    refine z_if_eq (tgt := 76) S he dX10_wants_53 (by decide) (fun he => ?_) (fun he => ?_)
    · refine z_iinc (v := (v4 + 1)) (lv' := [(0, .ref (X.2.2 109)), (3, .int v3), (4, .int (v4 + 1))]) S [1, 2, 0] 2 dX10_wants_76 rfl (by rfl) (by decide) rfl ?_
      refine z_goto (tgt := 39) S dX10_wants_79 (by decide) ?_
      refine z_lv (ks := [0, 1, 2]) rfl ?_
      exact hc _ (Option.some.inj he).symm
    · refine z_iload_n S dX10_wants_56 rfl 1 rfl ?_
      refine z_iconst (v := (-1)) S dX10_wants_57 (by decide) ?_
      refine z_icmp_eq (tgt := 73) S he dX10_wants_58 (by decide) (fun he => ?_) (fun he => ?_)
      · refine z_iload S dX10_wants_73 2 rfl ?_
        refine z_istore_n (lv' := [(0, .ref (X.2.2 109)), (3, .int v4), (4, .int v4)]) S [1, 0, 2] dX10_wants_75 rfl (by decide) rfl ?_
        refine z_iinc (v := (v4 + 1)) (lv' := [(0, .ref (X.2.2 109)), (3, .int v4), (4, .int (v4 + 1))]) S [1, 2, 0] 2 dX10_wants_76 rfl (by rfl) (by decide) rfl ?_
        refine z_goto (tgt := 39) S dX10_wants_79 (by decide) ?_
        refine z_lv (ks := [0, 1, 2]) rfl ?_
        exact hc _ (Option.some.inj he).symm
      · refine z_iload S dX10_wants_61 2 rfl ?_
        obtain ⟨r4, h9, he⟩ := bnd he
        refine z_cSI (As := [.int v4]) S cs_RX10_321 (K_X10_bits  h9) ⟨rfl, rfl⟩ ⟨Nat.le_of_ble_eq_true rfl, Nat.le_of_ble_eq_true rfl⟩ ⟨Nat.le_refl _, Nat.le_refl _⟩ rfl rfl (Nat.le_of_ble_eq_true rfl) dX10_wants_63 ?_
        refine z_iload_n S dX10_wants_66 rfl 1 rfl ?_
        obtain ⟨r5, h9, he⟩ := bnd he
        refine z_cSI (As := [.int v3]) S cs_RX10_321 (K_X10_bits  h9) ⟨rfl, rfl⟩ ⟨Nat.le_of_ble_eq_true rfl, Nat.le_of_ble_eq_true rfl⟩ ⟨Nat.le_refl _, Nat.le_refl _⟩ rfl rfl (Nat.le_of_ble_eq_true rfl) dX10_wants_67 ?_
        refine z_icmp_ge (tgt := 76) S he dX10_wants_70 (by decide) (fun he => ?_) (fun he => ?_)
        · refine z_iinc (v := (v4 + 1)) (lv' := [(0, .ref (X.2.2 109)), (3, .int v3), (4, .int (v4 + 1))]) S [1, 2, 0] 2 dX10_wants_76 rfl (by rfl) (by decide) rfl ?_
          refine z_goto (tgt := 39) S dX10_wants_79 (by decide) ?_
          refine z_lv (ks := [0, 1, 2]) rfl ?_
          exact hc _ (Option.some.inj he).symm
        · refine z_iload S dX10_wants_73 2 rfl ?_
          refine z_istore_n (lv' := [(0, .ref (X.2.2 109)), (3, .int v4), (4, .int v4)]) S [1, 0, 2] dX10_wants_75 rfl (by decide) rfl ?_
          refine z_iinc (v := (v4 + 1)) (lv' := [(0, .ref (X.2.2 109)), (3, .int v4), (4, .int (v4 + 1))]) S [1, 2, 0] 2 dX10_wants_76 rfl (by rfl) (by decide) rfl ?_
          refine z_goto (tgt := 39) S dX10_wants_79 (by decide) ?_
          refine z_lv (ks := [0, 1, 2]) rfl ?_
          exact hc _ (Option.some.inj he).symm
set_option maxRecDepth 100000 in
set_option maxHeartbeats 4000000 in
theorem p_X10_wants_J16 {X : Cx} {p : Program} {l : Launch} {e : Env} {s : State} {m : MethodId} {args : Array Value} {below : List Frame} {meth : Method} {c : Code} (S : SB X 1 p s m args meth c cX10_wants 5 (some .int) RX10) {M : Mm} {N : Mm} {r : Int32} {v1 : Int32} {v2 : Int32} {t0 : Int32}  (he : f_X10_wants_J16 M v1 v2 t0 = some (r, N)) : Z X 1 p l e rm_X10_wants s m args below meth c 0 0 (MQ below (QI X 1 r N s.heap.size) args s 0 0 (AA X 1 s.heap.size)) 5 M 16 [(0, .ref (X.2.2 109)), (1, .int v1), (2, .int v2)] [.int t0, .ref (X.2.2 109)] := by
  unfold f_X10_wants_J16 at he
  refine z_putIb S fo_RX10_63p rfl ok_109 rfl rfl he dX10_wants_16 (fun M3 he => ?_)
  refine z_aload_n S dX10_wants_19 rfl 0 rfl ?_
  refine z_getI S fo_RX10_63 rfl ok_109 dX10_wants_20 ?_
  refine z_if_le (tgt := 28) S he dX10_wants_23 (by decide) (fun he => ?_) (fun he => ?_)
  · refine z_iload_n S dX10_wants_28 rfl 1 rfl ?_
    refine z_if_ne (tgt := 34) S he dX10_wants_29 (by decide) (fun he => ?_) (fun he => ?_)
    · refine z_iconst (v := (-1)) S dX10_wants_34 (by decide) ?_
      refine z_istore_n (lv' := [(0, .ref (X.2.2 109)), (3, .int (-1))]) S [1, 0] dX10_wants_35 rfl (by decide) rfl ?_
      refine z_iconst (v := 0) S dX10_wants_36 (by decide) ?_
      refine z_istore (lv' := [(0, .ref (X.2.2 109)), (3, .int (-1)), (4, .int 0)]) S [1, 2, 0] dX10_wants_37 (by decide) rfl ?_
      obtain ⟨e_6, hl, he⟩ := bnd he
      have hX : Z X 1 p l e rm_X10_wants s m args below meth c 0 0 (MQ below (QI X 1 r N s.heap.size) args s 0 0 (AA X 1 s.heap.size)) 5 M3 82 [(3, .int e_6)] [] := by
        refine z_iload_n S dX10_wants_82 rfl 0 rfl ?_
        exact z_iret S (Prod.mk.inj (Option.some.inj he)) dX10_wants_83
      have hZ9 := loopZ (f := (fun a_6 => f_X10_wants_L39 M3 a_6.1 a_6.2)) (Zh := (fun a_6 => Z X 1 p l e rm_X10_wants s m args below meth c 0 0 (MQ below (QI X 1 r N s.heap.size) args s 0 0 (AA X 1 s.heap.size)) 5 M3 39 [(0, .ref (X.2.2 109)), (3, .int a_6.1), (4, .int a_6.2)] [])) (fun a_6 x hb hc hr => p_X10_wants_L39 S  hb hc (fun b hxe => by rw [hr b hxe]; exact hX)) FU ((-1), 0) hl
      exact hZ9
    · refine z_iload_n S dX10_wants_32 rfl 2 rfl ?_
      exact z_iret S (Prod.mk.inj (Option.some.inj he)) dX10_wants_33
  · refine z_iconst (v := 0) S dX10_wants_26 (by decide) ?_
    exact z_iret S (Prod.mk.inj (Option.some.inj he)) dX10_wants_27
set_option maxRecDepth 100000 in
set_option maxHeartbeats 4000000 in
theorem K_X10_wants {X : Cx} {l : Launch} {M : Mm} {a1 : Int32} {r : Int32} {N : Mm}  (he : f_X10_wants M a1 = some (r, N)) : KI X 1 l yX10_wants (wz yX10_wants cX10_wants 5 (some .int)) rm_X10_wants [.ref (X.2.2 109), .int a1] M r N := by
  intro sz
  refine K_of (Qc := (fun sz => QI X 1 r N sz)) (own := RX10) (lv0 := [(0, .ref (X.2.2 109)), (1, .int a1)]) (by decide +kernel) rfl (Nat.le_of_ble_eq_true rfl) rfl (fun p e s m args below meth c S => ?_) sz
  · unfold f_X10_wants at he
    refine z_aload_n S dX10_wants_0 rfl 0 rfl ?_
    obtain ⟨⟨r1, M2⟩, h9, he⟩ := bnd he
    dsimp only at he
    refine z_cVI (As := []) S cv_RX10_341 (K_X10_wanted  h9) ok_109 (by decide) (q := (RX10, TX10, 28)) rfl rfl ⟨rfl, rfl⟩ ⟨Nat.le_of_ble_eq_true rfl, Nat.le_of_ble_eq_true rfl⟩ ⟨Nat.le_refl _, Nat.le_refl _⟩ rfl rfl (Nat.le_of_ble_eq_true rfl) dX10_wants_1 ?_
    refine z_istore_n (lv' := [(0, .ref (X.2.2 109)), (1, .int a1), (2, .int r1)]) S [1, 2, 0] dX10_wants_4 rfl (by decide) rfl ?_
    refine z_aload_n S dX10_wants_5 rfl 0 rfl ?_
    refine z_iload_n S dX10_wants_6 rfl 2 rfl ?_
    refine z_iconst (v := (-1)) S dX10_wants_7 (by decide) ?_
    refine z_icmp_ne (tgt := 15) S he dX10_wants_8 (by decide) (fun he => ?_) (fun he => ?_)
    · refine z_iconst (v := 0) S dX10_wants_15 (by decide) ?_
      exact p_X10_wants_J16 S  he
    · refine z_iconst (v := 1) S dX10_wants_11 (by decide) ?_
      refine z_goto (tgt := 16) S dX10_wants_12 (by decide) ?_
      exact p_X10_wants_J16 S  he
set_option maxRecDepth 100000 in
set_option maxHeartbeats 4000000 in
theorem p_X7_next_J23 {X : Cx} {p : Program} {l : Launch} {e : Env} {s : State} {m : MethodId} {args : Array Value} {below : List Frame} {meth : Method} {c : Code} (S : SB X 0 p s m args meth c cX7_next 1 none RX7) {M : Mm} {N : Mm} {v0 : Nat} (h_v0 : OK 0 v0 7) (he : f_X7_next_J23 M v0 = some N) : Z X 0 p l e rm_X7_next s m args below meth c 0 0 (MQ below (QV X 0 N s.heap.size) args s 0 0 (AA X 0 s.heap.size)) 1 M 23 [(0, .ref (X.2.2 v0))] [] := by
  unfold f_X7_next_J23 at he
  refine z_aload_n S dX7_next_23 rfl 0 rfl ?_
  refine z_getI S fo_RX7_79 rfl h_v0 dX7_next_24 ?_
  refine z_if_lt (tgt := 93) S he dX7_next_27 (by decide) (fun he => ?_) (fun he => ?_)
  · exact z_vret S (Option.some.inj he) dX7_next_93
  · refine z_aload_n S dX7_next_30 rfl 0 rfl ?_
    refine z_getI S fo_RX7_79 rfl h_v0 dX7_next_31 ?_
    refine z_aload_n S dX7_next_34 rfl 0 rfl ?_
    refine z_getF (j := (v0 + 1)) S fo_RX7_11 1 rfl rfl h_v0 dX7_next_35 ?_
    refine z_alen (v := 401) S (okf7_1 h_v0).1 (cel_w (okf7_1 h_v0).1.2.2) rfl (okf7_1 h_v0).2 rfl dX7_next_38 ?_
    refine z_icmp_ge (tgt := 93) S he dX7_next_39 (by decide) (fun he => ?_) (fun he => ?_)
    · exact z_vret S (Option.some.inj he) dX7_next_93
    · refine z_aload_n S dX7_next_42 rfl 0 rfl ?_
      refine z_getF (j := (v0 + 1)) S fo_RX7_11 1 rfl rfl h_v0 dX7_next_43 ?_
      refine z_aload_n S dX7_next_46 rfl 0 rfl ?_
      refine z_getI S fo_RX7_79 rfl h_v0 dX7_next_47 ?_
      refine z_aldN S (okf7_1 h_v0).1 (okf7_1 h_v0).2 he dX7_next_50 (fun he => ?_)
      refine z_ifnull (tgt := 93) S he dX7_next_51 (by decide) (fun he => ?_) (fun he => ?_)
      · exact z_vret S (Option.some.inj he) dX7_next_93
      · refine z_aload_n S dX7_next_54 rfl 0 rfl ?_
        refine z_aload_n S dX7_next_55 rfl 0 rfl ?_
        refine z_getF (j := (v0 + 1)) S fo_RX7_11 1 rfl rfl h_v0 dX7_next_56 ?_
        refine z_aload_n S dX7_next_59 rfl 0 rfl ?_
        refine z_getI S fo_RX7_79 rfl h_v0 dX7_next_60 ?_
        refine z_aldN S (okf7_1 h_v0).1 (okf7_1 h_v0).2 he dX7_next_63 (fun he => ?_)
        refine z_putN S fo_RX7_28p rfl h_v0  he dX7_next_64 (fun M1 he => ?_)
        refine z_aload_n S dX7_next_67 rfl 0 rfl ?_
        refine z_aload_n S dX7_next_68 rfl 0 rfl ?_
        refine z_getF (j := (v0 + 2)) S fo_RX7_17 2 rfl rfl h_v0 dX7_next_69 ?_
        refine z_aload_n S dX7_next_72 rfl 0 rfl ?_
        refine z_getI S fo_RX7_79 rfl h_v0 dX7_next_73 ?_
        refine z_iald S (okf7_2 h_v0).1 (okf7_2 h_v0).2 he dX7_next_76 (fun he => ?_)
        refine z_putIb S fo_RX7_113p rfl h_v0 rfl rfl he dX7_next_77 (fun M2 he => ?_)
        refine z_aload_n S dX7_next_80 rfl 0 rfl ?_
        refine z_aload_n S dX7_next_81 rfl 0 rfl ?_
        refine z_getF (j := (v0 + 3)) S fo_RX7_21 3 rfl rfl h_v0 dX7_next_82 ?_
        refine z_aload_n S dX7_next_85 rfl 0 rfl ?_
        refine z_getI S fo_RX7_79 rfl h_v0 dX7_next_86 ?_
        refine z_iald S (okf7_3 h_v0).1 (okf7_3 h_v0).2 he dX7_next_89 (fun he => ?_)
        refine z_putIb S fo_RX7_116p rfl h_v0 rfl rfl he dX7_next_90 (fun M3 he => ?_)
        exact z_vret S (Option.some.inj he) dX7_next_93
set_option maxRecDepth 100000 in
set_option maxHeartbeats 4000000 in
theorem K_X7_next {X : Cx} {l : Launch} {M : Mm} {a0 : Nat} {N : Mm} (h_a0 : OK 0 a0 7) (he : f_X7_next M a0 = some N) : KV X 0 l yX7_next (wz yX7_next cX7_next 1 none) rm_X7_next [.ref (X.2.2 a0)] M N := by
  intro sz
  refine K_of (Qc := (fun sz => QV X 0 N sz)) (own := RX7) (lv0 := [(0, .ref (X.2.2 a0))]) (by decide +kernel) rfl (Nat.le_of_ble_eq_true rfl) rfl (fun p e s m args below meth c S => ?_) sz
  · unfold f_X7_next at he
    refine z_aload_n S dX7_next_0 rfl 0 rfl ?_
    refine z_getI S fo_RX7_79 rfl h_a0 dX7_next_1 ?_
    refine z_aload_n S dX7_next_4 rfl 0 rfl ?_
    refine z_getI S fo_RX7_35 rfl h_a0 dX7_next_5 ?_
    refine z_iconst (v := 1) S dX7_next_8 (by decide) ?_
    refine z_isub S dX7_next_9 ?_
    refine z_icmp_ge (tgt := 23) S he dX7_next_10 (by decide) (fun he => ?_) (fun he => ?_)
    · exact p_X7_next_J23 S h_a0 he
    · refine z_aload_n S dX7_next_13 rfl 0 rfl ?_
      refine z_dup S rfl dX7_next_14 ?_
      refine z_getI S fo_RX7_79 rfl h_a0 dX7_next_15 ?_
      refine z_iconst (v := 1) S dX7_next_18 (by decide) ?_
      refine z_iadd S dX7_next_19 ?_
      refine z_putIb S fo_RX7_79p rfl h_a0 rfl rfl he dX7_next_20 (fun M4 he => ?_)
      exact p_X7_next_J23 S h_a0 he
set_option maxRecDepth 100000 in
set_option maxHeartbeats 4000000 in
theorem p_X7_skip_J13 {X : Cx} {p : Program} {l : Launch} {e : Env} {s : State} {m : MethodId} {args : Array Value} {below : List Frame} {meth : Method} {c : Code} (S : SB X 0 p s m args meth c cX7_skip 3 (some .boolean) RX7) {M : Mm} {N : Mm} {r : Bool} {v0 : Nat} {t0 : Int32} (h_v0 : OK 0 v0 7) (he : f_X7_skip_J13 M v0 t0 = some (r, N)) : Z X 0 p l e rm_X7_skip s m args below meth c 0 0 (MQ below (QI X 0 (bI r) N s.heap.size) args s 0 0 (AA X 0 s.heap.size)) 3 M 13 [(0, .ref (X.2.2 v0))] [.int t0] := by
  unfold f_X7_skip_J13 at he
  refine z_istore_n (lv' := [(0, .ref (X.2.2 v0)), (2, .int t0)]) S [1, 0] dX7_skip_13 rfl (by decide) rfl ?_
  refine z_iload_n S dX7_skip_14 rfl 1 rfl ?_
  refine z_if_eq (tgt := 22) S he dX7_skip_15 (by decide) (fun he => ?_) (fun he => ?_)
  · refine z_iload_n S dX7_skip_22 rfl 1 rfl ?_
    rcases z_sw he with ⟨hk9, he⟩ | ⟨hk9, he⟩
    · exact z_zretv (b := false) S hk9 (Prod.mk.inj (Option.some.inj he)) dX7_skip_23
    · obtain ⟨hk8, he⟩ := grd he
      exact z_zretv (b := true) S hk8 (Prod.mk.inj (Option.some.inj he)) dX7_skip_23
  · refine z_aload_n S dX7_skip_18 rfl 0 rfl ?_
    obtain ⟨M2, h9, he⟩ := bnd he
    refine z_cVV (As := []) S cv_RX7_82 (K_X7_next h_v0 h9) h_v0 (by decide) (q := (RX7, TX7, 9)) rfl rfl ⟨rfl, rfl⟩ ⟨Nat.le_of_ble_eq_true rfl, Nat.le_of_ble_eq_true rfl⟩ ⟨Nat.le_refl _, Nat.le_refl _⟩ rfl rfl (Nat.le_of_ble_eq_true rfl) dX7_skip_19 ?_
    refine z_iload_n S dX7_skip_22 rfl 1 rfl ?_
    rcases z_sw he with ⟨hk9, he⟩ | ⟨hk9, he⟩
    · exact z_zretv (b := false) S hk9 (Prod.mk.inj (Option.some.inj he)) dX7_skip_23
    · obtain ⟨hk8, he⟩ := grd he
      exact z_zretv (b := true) S hk8 (Prod.mk.inj (Option.some.inj he)) dX7_skip_23
set_option maxRecDepth 100000 in
set_option maxHeartbeats 4000000 in
theorem K_X7_skip {X : Cx} {l : Launch} {M : Mm} {a0 : Nat} {a1 : Nat} {r : Bool} {N : Mm} (h_a0 : OK 0 a0 7) (h_a1 : isW a1 = true) (he : f_X7_skip M a0 a1 = some (r, N)) : KI X 0 l yX7_skip (wz yX7_skip cX7_skip 3 (some .boolean)) rm_X7_skip [.ref (X.2.2 a0), .ref (X.2.2 a1)] M (bI r) N := by
  intro sz
  refine K_of (Qc := (fun sz => QI X 0 (bI r) N sz)) (own := RX7) (lv0 := [(0, .ref (X.2.2 a0)), (1, .ref (X.2.2 a1))]) (by decide +kernel) rfl (Nat.le_of_ble_eq_true rfl) rfl (fun p e s m args below meth c S => ?_) sz
  · unfold f_X7_skip at he
    refine z_aload_n S dX7_skip_0 rfl 0 rfl ?_
    refine z_getWd S fo_RX7_28 rfl h_a0 he dX7_skip_1 (fun q1 hq1 he => ?_)
    refine z_aload_n S dX7_skip_4 rfl 1 rfl ?_
    refine z_acmp_ne (tgt := 12) S hq1 h_a1 he dX7_skip_5 (by decide) (fun he => ?_) (fun he => ?_)
    · refine z_iconst (v := 0) S dX7_skip_12 (by decide) ?_
      refine z_lv (ks := [0]) rfl ?_
      exact p_X7_skip_J13 S h_a0 he
    · refine z_iconst (v := 1) S dX7_skip_8 (by decide) ?_
      refine z_goto (tgt := 13) S dX7_skip_9 (by decide) ?_
      refine z_lv (ks := [0]) rfl ?_
      exact p_X7_skip_J13 S h_a0 he
set_option maxRecDepth 100000 in
set_option maxHeartbeats 4000000 in
theorem K_X7_refuse {X : Cx} {l : Launch} {M : Mm} {a0 : Nat} {r : Bool} {N : Mm} (h_a0 : OK 0 a0 7) (he : f_X7_refuse M a0 = (r, N)) : KI X 0 l yX7_refuse (wz yX7_refuse cX7_refuse 1 (some .boolean)) rm_X7_refuse [.ref (X.2.2 a0)] M (bI r) N := by
  intro sz
  refine K_of (Qc := (fun sz => QI X 0 (bI r) N sz)) (own := RX7) (lv0 := [(0, .ref (X.2.2 a0))]) (by decide +kernel) rfl (Nat.le_of_ble_eq_true rfl) rfl (fun p e s m args below meth c S => ?_) sz
  · unfold f_X7_refuse at he
    refine z_aload_n S dX7_refuse_0 rfl 0 rfl ?_
    refine z_aload_n S dX7_refuse_1 rfl 0 rfl ?_
    refine z_getI S fo_RX7_113 rfl h_a0 dX7_refuse_2 ?_
    refine z_putI S fo_RX7_31p rfl h_a0 rfl rfl dX7_refuse_5 ?_
    refine z_iconst (v := 0) S dX7_refuse_8 (by decide) ?_
    exact z_zret0 S (Prod.mk.inj (he)) dX7_refuse_9
set_option maxRecDepth 100000 in
set_option maxHeartbeats 4000000 in
theorem K_X7_numberWithin {X : Cx} {l : Launch} {M : Mm} {a0 : Nat} {a1 : Int32} {a2 : Int32} {r : Int32} (h_a0 : OK 0 a0 7) (he : f_X7_numberWithin M a0 a1 a2 = some r) : KI X 0 l yX7_numberWithin (wz yX7_numberWithin cX7_numberWithin 3 (some .int)) rm_X7_numberWithin [.ref (X.2.2 a0), .int a1, .int a2] M r M := by
  intro sz
  refine K_of (Qc := (fun sz => QI X 0 r M sz)) (own := RX7) (lv0 := [(0, .ref (X.2.2 a0)), (1, .int a1), (2, .int a2)]) (by decide +kernel) rfl (Nat.le_of_ble_eq_true rfl) rfl (fun p e s m args below meth c S => ?_) sz
  · unfold f_X7_numberWithin at he
    refine z_aload_n S dX7_numberWithin_0 rfl 0 rfl ?_
    refine z_getWd S fo_RX7_28 rfl h_a0 he dX7_numberWithin_1 (fun q1 hq1 he => ?_)
    refine z_getW (i := 28) (j := 328) S (by decide) rfl rfl gw_RX7_67 dX7_numberWithin_4 ?_
    refine z_acmp_ne (tgt := 33) S hq1 (isW_add (i := 28) (by decide)) he dX7_numberWithin_7 (by decide) (fun he => ?_) (fun he => ?_)
    · refine z_iconst (v := (-1)) S dX7_numberWithin_33 (by decide) ?_
      exact z_iret S (⟨Option.some.inj he, rfl⟩) dX7_numberWithin_34
    · refine z_aload_n S dX7_numberWithin_10 rfl 0 rfl ?_
      refine z_getI S fo_RX7_116 rfl h_a0 dX7_numberWithin_11 ?_
      refine z_iload_n S dX7_numberWithin_14 rfl 1 rfl ?_
      refine z_icmp_lt (tgt := 33) S he dX7_numberWithin_15 (by decide) (fun he => ?_) (fun he => ?_)
      · refine z_iconst (v := (-1)) S dX7_numberWithin_33 (by decide) ?_
        exact z_iret S (⟨Option.some.inj he, rfl⟩) dX7_numberWithin_34
      · refine z_aload_n S dX7_numberWithin_18 rfl 0 rfl ?_
        refine z_getI S fo_RX7_116 rfl h_a0 dX7_numberWithin_19 ?_
        refine z_iload_n S dX7_numberWithin_22 rfl 2 rfl ?_
        refine z_icmp_gt (tgt := 33) S he dX7_numberWithin_23 (by decide) (fun he => ?_) (fun he => ?_)
        · refine z_iconst (v := (-1)) S dX7_numberWithin_33 (by decide) ?_
          exact z_iret S (⟨Option.some.inj he, rfl⟩) dX7_numberWithin_34
        · refine z_aload_n S dX7_numberWithin_26 rfl 0 rfl ?_
          refine z_getI S fo_RX7_116 rfl h_a0 dX7_numberWithin_27 ?_
          refine z_goto (tgt := 34) S dX7_numberWithin_30 (by decide) ?_
          exact z_iret S (⟨Option.some.inj he, rfl⟩) dX7_numberWithin_34
set_option maxRecDepth 100000 in
set_option maxHeartbeats 4000000 in
theorem p_X4_thingAt_L2 {X : Cx} {p : Program} {l : Launch} {e : Env} {s : State} {m : MethodId} {args : Array Value} {below : List Frame} {meth : Method} {c : Code} (S : SB X 0 p s m args meth c cX4_thingAt 3 (some .int) RX4) {M : Mm} {r : Int32} {v0 : Nat} {v1 : Int32} {v2 : Int32} {x : Int32 ⊕ ((Int32) ⊕ Unit)} (h_v0 : OK 0 v0 4) (he : f_X4_thingAt_L2 M v0 v1 v2 = some x) (hc : ∀ b, x = .inl b → Z X 0 p l e rm_X4_thingAt s m args below meth c 0 0 (MQ below (QI X 0 r M s.heap.size) args s 0 0 (AA X 0 s.heap.size)) 3 M 2 [(0, .ref (X.2.2 v0)), (1, .int v1), (2, .int b)] []) (hx : ∀ b, x = .inr (.inr b) → Z X 0 p l e rm_X4_thingAt s m args below meth c 0 0 (MQ below (QI X 0 r M s.heap.size) args s 0 0 (AA X 0 s.heap.size)) 3 M 34 [] []) (hr : ∀ v, x = .inr (.inl v) → v = r) : Z X 0 p l e rm_X4_thingAt s m args below meth c 0 0 (MQ below (QI X 0 r M s.heap.size) args s 0 0 (AA X 0 s.heap.size)) 3 M 2 [(0, .ref (X.2.2 v0)), (1, .int v1), (2, .int v2)] [] := by
  unfold f_X4_thingAt_L2 at he
  refine z_iload_n S dX4_thingAt_2 rfl 2 rfl ?_
  refine z_aload_n S dX4_thingAt_3 rfl 0 rfl ?_
  refine z_getI S fo_RX4_34 rfl h_v0 dX4_thingAt_4 ?_
  refine z_icmp_ge (tgt := 34) S he dX4_thingAt_7 (by decide) (fun he => ?_) (fun he => ?_)
  · refine z_lv (ks := []) rfl ?_
    exact hx _ (Option.some.inj he).symm
  · refine z_aload_n S dX4_thingAt_10 rfl 0 rfl ?_
    refine z_getF (j := (v0 + 1)) S fo_RX4_9 1 rfl rfl h_v0 dX4_thingAt_11 ?_
    refine z_iload_n S dX4_thingAt_14 rfl 2 rfl ?_
    refine z_iconst (v := 5) S dX4_thingAt_15 (by decide) ?_
    refine z_imul S dX4_thingAt_16 ?_
    refine z_iconst (v := 0) S dX4_thingAt_17 (by decide) ?_
    refine z_iadd S dX4_thingAt_18 ?_
    refine z_cNI (As := [.ref (X.2.2 (v0 + 1)), .int ((v2 * 5) + 0)]) S cn_RX4_49 (Kt_X9_at (okf4_1 h_v0).1 rfl) ⟨rfl, rfl⟩ ⟨Nat.le_of_ble_eq_true rfl, Nat.le_of_ble_eq_true rfl⟩ ⟨Nat.le_refl _, Nat.le_refl _⟩ rfl rfl (Nat.le_of_ble_eq_true rfl) dX4_thingAt_19 ?_
    refine z_iload_n S dX4_thingAt_22 rfl 1 rfl ?_
    refine z_icmp_ne (tgt := 28) S he dX4_thingAt_23 (by decide) (fun he => ?_) (fun he => ?_)
    · refine z_iinc (v := (v2 + 1)) (lv' := [(0, .ref (X.2.2 v0)), (1, .int v1), (2, .int (v2 + 1))]) S [1, 2, 0] 2 dX4_thingAt_28 rfl (by rfl) (by decide) rfl ?_
      refine z_goto (tgt := 2) S dX4_thingAt_31 (by decide) ?_
      refine z_lv (ks := [0, 1, 2]) rfl ?_
      exact hc _ (Option.some.inj he).symm
    · refine z_iload_n S dX4_thingAt_26 rfl 2 rfl ?_
      exact z_iret S (⟨hr _ (Option.some.inj he).symm, rfl⟩) dX4_thingAt_27
set_option maxRecDepth 100000 in
set_option maxHeartbeats 4000000 in
theorem K_X4_thingAt {X : Cx} {l : Launch} {M : Mm} {a0 : Nat} {a1 : Int32} {r : Int32} (h_a0 : OK 0 a0 4) (he : f_X4_thingAt M a0 a1 = some r) : KI X 0 l yX4_thingAt (wz yX4_thingAt cX4_thingAt 3 (some .int)) rm_X4_thingAt [.ref (X.2.2 a0), .int a1] M r M := by
  intro sz
  refine K_of (Qc := (fun sz => QI X 0 r M sz)) (own := RX4) (lv0 := [(0, .ref (X.2.2 a0)), (1, .int a1)]) (by decide +kernel) rfl (Nat.le_of_ble_eq_true rfl) rfl (fun p e s m args below meth c S => ?_) sz
  · unfold f_X4_thingAt at he
    refine z_iconst (v := 0) S dX4_thingAt_0 (by decide) ?_
    refine z_istore_n (lv' := [(0, .ref (X.2.2 a0)), (1, .int a1), (2, .int 0)]) S [1, 2, 0] dX4_thingAt_1 rfl (by decide) rfl ?_
    obtain ⟨r9, hl, hr1, hr2⟩ := bndS he
    have hX : ∀ e_1, r9 = .inr e_1 → Z X 0 p l e rm_X4_thingAt s m args below meth c 0 0 (MQ below (QI X 0 r M s.heap.size) args s 0 0 (AA X 0 s.heap.size)) 3 M 34 [] [] := by
      intro e_1 hre
      have he := hr2 e_1 hre
      refine z_iconst (v := (-1)) S dX4_thingAt_34 (by decide) ?_
      exact z_iret S (⟨Option.some.inj he, rfl⟩) dX4_thingAt_35
    have hZ9 := loopZ (f := (fun a_1 => f_X4_thingAt_L2 M a0 a1 a_1)) (Zh := (fun a_1 => Z X 0 p l e rm_X4_thingAt s m args below meth c 0 0 (MQ below (QI X 0 r M s.heap.size) args s 0 0 (AA X 0 s.heap.size)) 3 M 2 [(0, .ref (X.2.2 a0)), (1, .int a1), (2, .int a_1)] [])) (fun a_1 x hb hc hr9 => p_X4_thingAt_L2 S h_a0 hb hc (fun b hxe => hX b (hr9 _ hxe).symm) (fun v hxv => Option.some.inj (hr1 v (hr9 _ hxv).symm))) FU 0 hl
    exact hZ9
set_option maxRecDepth 100000 in
set_option maxHeartbeats 4000000 in
theorem p_X1_readCell_J55 {X : Cx} {p : Program} {l : Launch} {e : Env} {s : State} {m : MethodId} {args : Array Value} {below : List Frame} {meth : Method} {c : Code} (S : SB X 0 p s m args meth c cX1_readCell 2 (some .boolean) RX1) {M : Mm} {N : Mm} {r : Bool}  (he : f_X1_readCell_J55 M  = some (r, N)) : Z X 0 p l e rm_X1_readCell s m args below meth c 0 0 (MQ below (QI X 0 (bI r) N s.heap.size) args s 0 0 (AA X 0 s.heap.size)) 2 M 55 [(0, .ref (X.2.2 97))] [] := by
  unfold f_X1_readCell_J55 at he
  refine z_aload_n S dX1_readCell_55 rfl 0 rfl ?_
  refine z_getF (j := 98) S fo_RX1_12 1 rfl rfl ok_97 dX1_readCell_56 ?_
  obtain ⟨⟨r5, M6⟩, h9, he⟩ := bnd he
  dsimp only at he
  refine z_cVI (As := []) S cv_RX1_42 (K_X7_refuse ok_98 (Option.some.inj h9)) ok_98 (by decide) (q := (RX7, TX7, 9)) rfl rfl ⟨rfl, rfl⟩ ⟨Nat.le_of_ble_eq_true rfl, Nat.le_of_ble_eq_true rfl⟩ ⟨Nat.le_refl _, Nat.le_refl _⟩ rfl rfl (Nat.le_of_ble_eq_true rfl) dX1_readCell_59 ?_
  exact z_zret S (Prod.mk.inj (Option.some.inj he)) dX1_readCell_62
set_option maxRecDepth 100000 in
set_option maxHeartbeats 4000000 in
theorem K_X1_readCell {X : Cx} {l : Launch} {M : Mm} {a1 : Nat} {r : Bool} {N : Mm} (h_a1 : OK 0 a1 4) (he : f_X1_readCell M a1 = some (r, N)) : KI X 0 l yX1_readCell (wz yX1_readCell cX1_readCell 2 (some .boolean)) rm_X1_readCell [.ref (X.2.2 97), .ref (X.2.2 a1)] M (bI r) N := by
  intro sz
  refine K_of (Qc := (fun sz => QI X 0 (bI r) N sz)) (own := RX1) (lv0 := [(0, .ref (X.2.2 97)), (1, .ref (X.2.2 a1))]) (by decide +kernel) rfl (Nat.le_of_ble_eq_true rfl) rfl (fun p e s m args below meth c S => ?_) sz
  · unfold f_X1_readCell at he
    refine z_aload_n S dX1_readCell_0 rfl 0 rfl ?_
    refine z_getF (j := 98) S fo_RX1_12 1 rfl rfl ok_97 dX1_readCell_1 ?_
    refine z_getW (i := 1) (j := 301) S (by decide) rfl rfl gw_RX1_102 dX1_readCell_4 ?_
    obtain ⟨⟨r1, M2⟩, h9, he⟩ := bnd he
    dsimp only at he
    refine z_cVI (As := [.ref (X.2.2 301)]) S cv_RX1_38 (K_X7_skip ok_98 (isW_add (i := 1) (by decide)) h9) ok_98 (by decide) (q := (RX7, TX7, 9)) rfl rfl ⟨rfl, rfl⟩ ⟨Nat.le_of_ble_eq_true rfl, Nat.le_of_ble_eq_true rfl⟩ ⟨Nat.le_refl _, Nat.le_refl _⟩ rfl rfl (Nat.le_of_ble_eq_true rfl) dX1_readCell_7 ?_
    refine z_ifb_ne (tgt := 21) S he dX1_readCell_10 (by decide) (fun he => ?_) (fun he => ?_)
    · refine z_aload_n S dX1_readCell_21 rfl 0 rfl ?_
      refine z_aload_n S dX1_readCell_22 rfl 0 rfl ?_
      refine z_getF (j := 98) S fo_RX1_12 1 rfl rfl ok_97 dX1_readCell_23 ?_
      refine z_iconst (v := 0) S dX1_readCell_26 (by decide) ?_
      refine z_bipush (v := 19) S dX1_readCell_27 (by decide) ?_
      obtain ⟨r3, h9, he⟩ := bnd he
      refine z_cVI (As := [.int 0, .int 19]) S cv_RX1_105 (K_X7_numberWithin ok_98 h9) ok_98 (by decide) (q := (RX7, TX7, 9)) rfl rfl ⟨rfl, rfl⟩ ⟨Nat.le_of_ble_eq_true rfl, Nat.le_of_ble_eq_true rfl⟩ ⟨Nat.le_refl _, Nat.le_refl _⟩ rfl rfl (Nat.le_of_ble_eq_true rfl) dX1_readCell_29 ?_
      refine z_putIb S fo_RX1_85p rfl ok_97 rfl rfl he dX1_readCell_32 (fun M4 he => ?_)
      refine z_aload_n S dX1_readCell_35 rfl 0 rfl ?_
      refine z_getI S fo_RX1_85 rfl ok_97 dX1_readCell_36 ?_
      refine z_iconst (v := (-1)) S dX1_readCell_39 (by decide) ?_
      refine z_icmp_eq (tgt := 55) S he dX1_readCell_40 (by decide) (fun he => ?_) (fun he => ?_)
      · refine z_lv (ks := [0]) rfl ?_
        exact p_X1_readCell_J55 S  he
      · refine z_aload_n S dX1_readCell_43 rfl 1 rfl ?_
        refine z_aload_n S dX1_readCell_44 rfl 0 rfl ?_
        refine z_getI S fo_RX1_85 rfl ok_97 dX1_readCell_45 ?_
        obtain ⟨r7, h9, he⟩ := bnd he
        refine z_cVI (As := [.int (gI M4 97 1)]) S cv_RX1_109 (K_X4_thingAt h_a1 h9) h_a1 (by decide) (q := (RX4, TX4, 10)) rfl rfl ⟨rfl, rfl⟩ ⟨Nat.le_of_ble_eq_true rfl, Nat.le_of_ble_eq_true rfl⟩ ⟨Nat.le_refl _, Nat.le_refl _⟩ rfl rfl (Nat.le_of_ble_eq_true rfl) dX1_readCell_48 ?_
        refine z_iconst (v := (-1)) S dX1_readCell_51 (by decide) ?_
        refine z_icmp_eq (tgt := 63) S he dX1_readCell_52 (by decide) (fun he => ?_) (fun he => ?_)
        · refine z_aload_n S dX1_readCell_63 rfl 0 rfl ?_
          refine z_getF (j := 98) S fo_RX1_12 1 rfl rfl ok_97 dX1_readCell_64 ?_
          obtain ⟨M8, h9, he⟩ := bnd he
          refine z_cVV (As := []) S cv_RX1_79 (K_X7_next ok_98 h9) ok_98 (by decide) (q := (RX7, TX7, 9)) rfl rfl ⟨rfl, rfl⟩ ⟨Nat.le_of_ble_eq_true rfl, Nat.le_of_ble_eq_true rfl⟩ ⟨Nat.le_refl _, Nat.le_refl _⟩ rfl rfl (Nat.le_of_ble_eq_true rfl) dX1_readCell_67 ?_
          refine z_iconst (v := 1) S dX1_readCell_70 (by decide) ?_
          exact z_zret1 S (Prod.mk.inj (Option.some.inj he)) dX1_readCell_71
        · refine z_lv (ks := [0]) rfl ?_
          exact p_X1_readCell_J55 S  he
    · refine z_aload_n S dX1_readCell_13 rfl 0 rfl ?_
      refine z_getF (j := 98) S fo_RX1_12 1 rfl rfl ok_97 dX1_readCell_14 ?_
      obtain ⟨⟨r9, M10⟩, h9, he⟩ := bnd he
      dsimp only at he
      refine z_cVI (As := []) S cv_RX1_42 (K_X7_refuse ok_98 (Option.some.inj h9)) ok_98 (by decide) (q := (RX7, TX7, 9)) rfl rfl ⟨rfl, rfl⟩ ⟨Nat.le_of_ble_eq_true rfl, Nat.le_of_ble_eq_true rfl⟩ ⟨Nat.le_refl _, Nat.le_refl _⟩ rfl rfl (Nat.le_of_ble_eq_true rfl) dX1_readCell_17 ?_
      exact z_zret S (Prod.mk.inj (Option.some.inj he)) dX1_readCell_20
set_option maxRecDepth 100000 in
set_option maxHeartbeats 4000000 in
theorem K_X1_readNamed {X : Cx} {l : Launch} {M : Mm} {a1 : Nat} {a2 : Int32} {a3 : Int32} {r : Bool} {N : Mm} (h_a1 : isW a1 = true) (he : f_X1_readNamed M a1 a2 a3 = some (r, N)) : KI X 0 l yX1_readNamed (wz yX1_readNamed cX1_readNamed 4 (some .boolean)) rm_X1_readNamed [.ref (X.2.2 97), .ref (X.2.2 a1), .int a2, .int a3] M (bI r) N := by
  intro sz
  refine K_of (Qc := (fun sz => QI X 0 (bI r) N sz)) (own := RX1) (lv0 := [(0, .ref (X.2.2 97)), (1, .ref (X.2.2 a1)), (2, .int a2), (3, .int a3)]) (by decide +kernel) rfl (Nat.le_of_ble_eq_true rfl) rfl (fun p e s m args below meth c S => ?_) sz
  · unfold f_X1_readNamed at he
    refine z_aload_n S dX1_readNamed_0 rfl 0 rfl ?_
    refine z_getF (j := 98) S fo_RX1_12 1 rfl rfl ok_97 dX1_readNamed_1 ?_
    refine z_aload_n S dX1_readNamed_4 rfl 1 rfl ?_
    obtain ⟨⟨r1, M2⟩, h9, he⟩ := bnd he
    dsimp only at he
    refine z_cVI (As := [.ref (X.2.2 a1)]) S cv_RX1_38 (K_X7_skip ok_98 h_a1 h9) ok_98 (by decide) (q := (RX7, TX7, 9)) rfl rfl ⟨rfl, rfl⟩ ⟨Nat.le_of_ble_eq_true rfl, Nat.le_of_ble_eq_true rfl⟩ ⟨Nat.le_refl _, Nat.le_refl _⟩ rfl rfl (Nat.le_of_ble_eq_true rfl) dX1_readNamed_5 ?_
    refine z_ifb_ne (tgt := 19) S he dX1_readNamed_8 (by decide) (fun he => ?_) (fun he => ?_)
    · refine z_aload_n S dX1_readNamed_19 rfl 0 rfl ?_
      refine z_aload_n S dX1_readNamed_20 rfl 0 rfl ?_
      refine z_getF (j := 98) S fo_RX1_12 1 rfl rfl ok_97 dX1_readNamed_21 ?_
      refine z_iload_n S dX1_readNamed_24 rfl 2 rfl ?_
      refine z_iload_n S dX1_readNamed_25 rfl 3 rfl ?_
      obtain ⟨r3, h9, he⟩ := bnd he
      refine z_cVI (As := [.int a2, .int a3]) S cv_RX1_105 (K_X7_numberWithin ok_98 h9) ok_98 (by decide) (q := (RX7, TX7, 9)) rfl rfl ⟨rfl, rfl⟩ ⟨Nat.le_of_ble_eq_true rfl, Nat.le_of_ble_eq_true rfl⟩ ⟨Nat.le_refl _, Nat.le_refl _⟩ rfl rfl (Nat.le_of_ble_eq_true rfl) dX1_readNamed_26 ?_
      refine z_putIb S fo_RX1_85p rfl ok_97 rfl rfl he dX1_readNamed_29 (fun M4 he => ?_)
      refine z_aload_n S dX1_readNamed_32 rfl 0 rfl ?_
      refine z_getI S fo_RX1_85 rfl ok_97 dX1_readNamed_33 ?_
      refine z_iconst (v := (-1)) S dX1_readNamed_36 (by decide) ?_
      refine z_icmp_ne (tgt := 48) S he dX1_readNamed_37 (by decide) (fun he => ?_) (fun he => ?_)
      · refine z_aload_n S dX1_readNamed_48 rfl 0 rfl ?_
        refine z_getF (j := 98) S fo_RX1_12 1 rfl rfl ok_97 dX1_readNamed_49 ?_
        obtain ⟨M5, h9, he⟩ := bnd he
        refine z_cVV (As := []) S cv_RX1_79 (K_X7_next ok_98 h9) ok_98 (by decide) (q := (RX7, TX7, 9)) rfl rfl ⟨rfl, rfl⟩ ⟨Nat.le_of_ble_eq_true rfl, Nat.le_of_ble_eq_true rfl⟩ ⟨Nat.le_refl _, Nat.le_refl _⟩ rfl rfl (Nat.le_of_ble_eq_true rfl) dX1_readNamed_52 ?_
        refine z_iconst (v := 1) S dX1_readNamed_55 (by decide) ?_
        exact z_zret1 S (Prod.mk.inj (Option.some.inj he)) dX1_readNamed_56
      · refine z_aload_n S dX1_readNamed_40 rfl 0 rfl ?_
        refine z_getF (j := 98) S fo_RX1_12 1 rfl rfl ok_97 dX1_readNamed_41 ?_
        obtain ⟨⟨r6, M7⟩, h9, he⟩ := bnd he
        dsimp only at he
        refine z_cVI (As := []) S cv_RX1_42 (K_X7_refuse ok_98 (Option.some.inj h9)) ok_98 (by decide) (q := (RX7, TX7, 9)) rfl rfl ⟨rfl, rfl⟩ ⟨Nat.le_of_ble_eq_true rfl, Nat.le_of_ble_eq_true rfl⟩ ⟨Nat.le_refl _, Nat.le_refl _⟩ rfl rfl (Nat.le_of_ble_eq_true rfl) dX1_readNamed_44 ?_
        exact z_zret S (Prod.mk.inj (Option.some.inj he)) dX1_readNamed_47
    · refine z_aload_n S dX1_readNamed_11 rfl 0 rfl ?_
      refine z_getF (j := 98) S fo_RX1_12 1 rfl rfl ok_97 dX1_readNamed_12 ?_
      obtain ⟨⟨r8, M9⟩, h9, he⟩ := bnd he
      dsimp only at he
      refine z_cVI (As := []) S cv_RX1_42 (K_X7_refuse ok_98 (Option.some.inj h9)) ok_98 (by decide) (q := (RX7, TX7, 9)) rfl rfl ⟨rfl, rfl⟩ ⟨Nat.le_of_ble_eq_true rfl, Nat.le_of_ble_eq_true rfl⟩ ⟨Nat.le_refl _, Nat.le_refl _⟩ rfl rfl (Nat.le_of_ble_eq_true rfl) dX1_readNamed_15 ?_
      exact z_zret S (Prod.mk.inj (Option.some.inj he)) dX1_readNamed_18
set_option maxRecDepth 100000 in
set_option maxHeartbeats 4000000 in
theorem K_X4_setThing {X : Cx} {l : Launch} {M : Mm} {a0 : Nat} {a1 : Int32} {a2 : Int32} {a3 : Int32} {N : Mm} (h_a0 : OK 0 a0 4) (he : f_X4_setThing M a0 a1 a2 a3 = N) : KV X 0 l yX4_setThing (wz yX4_setThing cX4_setThing 4 none) rm_X4_setThing [.ref (X.2.2 a0), .int a1, .int a2, .int a3] M N := by
  intro sz
  refine K_of (Qc := (fun sz => QV X 0 N sz)) (own := RX4) (lv0 := [(0, .ref (X.2.2 a0)), (1, .int a1), (2, .int a2), (3, .int a3)]) (by decide +kernel) rfl (Nat.le_of_ble_eq_true rfl) rfl (fun p e s m args below meth c S => ?_) sz
  · unfold f_X4_setThing at he
    refine z_aload_n S dX4_setThing_0 rfl 0 rfl ?_
    refine z_getF (j := (a0 + 1)) S fo_RX4_9 1 rfl rfl h_a0 dX4_setThing_1 ?_
    refine z_iload_n S dX4_setThing_4 rfl 1 rfl ?_
    refine z_iconst (v := 5) S dX4_setThing_5 (by decide) ?_
    refine z_imul S dX4_setThing_6 ?_
    refine z_iload_n S dX4_setThing_7 rfl 2 rfl ?_
    refine z_iadd S dX4_setThing_8 ?_
    refine z_iload_n S dX4_setThing_9 rfl 3 rfl ?_
    refine z_cNV (As := [.ref (X.2.2 (a0 + 1)), .int ((a1 * 5) + a2), .int a3]) S cn_RX4_53 (Kt_X9_put (okf4_1 h_a0).1 rfl) ⟨rfl, rfl⟩ ⟨Nat.le_of_ble_eq_true rfl, Nat.le_of_ble_eq_true rfl⟩ ⟨Nat.le_refl _, Nat.le_refl _⟩ rfl rfl (Nat.le_of_ble_eq_true rfl) dX4_setThing_10 ?_
    exact z_vret S (he) dX4_setThing_13
set_option maxRecDepth 100000 in
set_option maxHeartbeats 4000000 in
theorem K_X1_readCellar {X : Cx} {l : Launch} {M : Mm} {a1 : Nat} {r : Bool} {N : Mm} (h_a1 : OK 0 a1 4) (he : f_X1_readCellar M a1 = some (r, N)) : KI X 0 l yX1_readCellar (wz yX1_readCellar cX1_readCellar 3 (some .boolean)) rm_X1_readCellar [.ref (X.2.2 97), .ref (X.2.2 a1)] M (bI r) N := by
  intro sz
  refine K_of (Qc := (fun sz => QI X 0 (bI r) N sz)) (own := RX1) (lv0 := [(0, .ref (X.2.2 97)), (1, .ref (X.2.2 a1))]) (by decide +kernel) rfl (Nat.le_of_ble_eq_true rfl) rfl (fun p e s m args below meth c S => ?_) sz
  · unfold f_X1_readCellar at he
    refine z_aload_n S dX1_readCellar_0 rfl 0 rfl ?_
    refine z_getW (i := 8) (j := 308) S (by decide) rfl rfl gw_RX1_73 dX1_readCellar_1 ?_
    refine z_iconst (v := 0) S dX1_readCellar_4 (by decide) ?_
    refine z_aload_n S dX1_readCellar_5 rfl 1 rfl ?_
    refine z_getI S fo_RX1_49 rfl h_a1 dX1_readCellar_6 ?_
    refine z_iconst (v := 1) S dX1_readCellar_9 (by decide) ?_
    refine z_isub S dX1_readCellar_10 ?_
    obtain ⟨⟨r1, M2⟩, h9, he⟩ := bnd he
    dsimp only at he
    refine z_cVI (As := [.ref (X.2.2 308), .int 0, .int ((gI M a1 3) - 1)]) S cv_RX1_91 (K_X1_readNamed (isW_add (i := 8) (by decide)) h9) ok_97 (by decide) (q := (RX1, TX1, 2)) rfl rfl ⟨rfl, rfl⟩ ⟨Nat.le_of_ble_eq_true rfl, Nat.le_of_ble_eq_true rfl⟩ ⟨Nat.le_refl _, Nat.le_refl _⟩ rfl rfl (Nat.le_of_ble_eq_true rfl) dX1_readCellar_11 ?_
    refine z_istore_n (lv' := [(0, .ref (X.2.2 97)), (1, .ref (X.2.2 a1)), (2, .int (bI r1))]) S [1, 2, 0] dX1_readCellar_14 rfl (by decide) rfl ?_
    refine z_iload_n S dX1_readCellar_15 rfl 2 rfl ?_
    refine z_ifb_eq (tgt := 29) S he dX1_readCellar_16 (by decide) (fun he => ?_) (fun he => ?_)
    · refine z_iload_n S dX1_readCellar_29 rfl 2 rfl ?_
      exact z_zret S (Prod.mk.inj (Option.some.inj he)) dX1_readCellar_30
    · refine z_aload_n S dX1_readCellar_19 rfl 1 rfl ?_
      refine z_aload_n S dX1_readCellar_20 rfl 0 rfl ?_
      refine z_getI S fo_RX1_85 rfl ok_97 dX1_readCellar_21 ?_
      refine z_iconst (v := 3) S dX1_readCellar_24 (by decide) ?_
      refine z_iconst (v := 0) S dX1_readCellar_25 (by decide) ?_
      obtain ⟨M3, h9, he⟩ := bnd he
      refine z_cVV (As := [.int (gI M2 97 1), .int 3, .int 0]) S cv_RX1_146 (K_X4_setThing h_a1 (Option.some.inj h9)) h_a1 (by decide) (q := (RX4, TX4, 10)) rfl rfl ⟨rfl, rfl⟩ ⟨Nat.le_of_ble_eq_true rfl, Nat.le_of_ble_eq_true rfl⟩ ⟨Nat.le_refl _, Nat.le_refl _⟩ rfl rfl (Nat.le_of_ble_eq_true rfl) dX1_readCellar_26 ?_
      refine z_iload_n S dX1_readCellar_29 rfl 2 rfl ?_
      exact z_zret S (Prod.mk.inj (Option.some.inj he)) dX1_readCellar_30
set_option maxRecDepth 100000 in
set_option maxHeartbeats 4000000 in
theorem K_X1_readColumn {X : Cx} {l : Launch} {M : Mm} {a1 : Int32} {r : Bool} {N : Mm}  (he : f_X1_readColumn M a1 = some (r, N)) : KI X 0 l yX1_readColumn (wz yX1_readColumn cX1_readColumn 2 (some .boolean)) rm_X1_readColumn [.ref (X.2.2 97), .int a1] M (bI r) N := by
  intro sz
  refine K_of (Qc := (fun sz => QI X 0 (bI r) N sz)) (own := RX1) (lv0 := [(0, .ref (X.2.2 97)), (1, .int a1)]) (by decide +kernel) rfl (Nat.le_of_ble_eq_true rfl) rfl (fun p e s m args below meth c S => ?_) sz
  · unfold f_X1_readColumn at he
    refine z_iload_n S dX1_readColumn_0 rfl 1 rfl ?_
    rcases z_sw he with ⟨hk0, he⟩ | ⟨hk0, he⟩
    · refine z_tabIn (tgt := 28) S dX1_readColumn_1 hk0 (by decide) (by decide) rfl (by decide) ?_
      refine z_aload_n S dX1_readColumn_28 rfl 0 rfl ?_
      refine z_getW (i := 16) (j := 316) S (by decide) rfl rfl gw_RX1_127 dX1_readColumn_29 ?_
      refine z_iconst (v := 0) S dX1_readColumn_32 (by decide) ?_
      refine z_bipush (v := 99) S dX1_readColumn_33 (by decide) ?_
      obtain ⟨⟨r1, M2⟩, h9, he⟩ := bnd he
      dsimp only at he
      refine z_cVI (As := [.ref (X.2.2 316), .int 0, .int 99]) S cv_RX1_91 (K_X1_readNamed (isW_add (i := 16) (by decide)) h9) ok_97 (by decide) (q := (RX1, TX1, 2)) rfl rfl ⟨rfl, rfl⟩ ⟨Nat.le_of_ble_eq_true rfl, Nat.le_of_ble_eq_true rfl⟩ ⟨Nat.le_refl _, Nat.le_refl _⟩ rfl rfl (Nat.le_of_ble_eq_true rfl) dX1_readColumn_35 ?_
      exact z_zret S (Prod.mk.inj (Option.some.inj he)) dX1_readColumn_38
    rcases z_sw he with ⟨hk1, he⟩ | ⟨hk1, he⟩
    · refine z_tabIn (tgt := 39) S dX1_readColumn_1 hk1 (by decide) (by decide) rfl (by decide) ?_
      refine z_aload_n S dX1_readColumn_39 rfl 0 rfl ?_
      refine z_getW (i := 17) (j := 317) S (by decide) rfl rfl gw_RX1_130 dX1_readColumn_40 ?_
      refine z_iconst (v := 0) S dX1_readColumn_43 (by decide) ?_
      refine z_bipush (v := 9) S dX1_readColumn_44 (by decide) ?_
      obtain ⟨⟨r3, M4⟩, h9, he⟩ := bnd he
      dsimp only at he
      refine z_cVI (As := [.ref (X.2.2 317), .int 0, .int 9]) S cv_RX1_91 (K_X1_readNamed (isW_add (i := 17) (by decide)) h9) ok_97 (by decide) (q := (RX1, TX1, 2)) rfl rfl ⟨rfl, rfl⟩ ⟨Nat.le_of_ble_eq_true rfl, Nat.le_of_ble_eq_true rfl⟩ ⟨Nat.le_refl _, Nat.le_refl _⟩ rfl rfl (Nat.le_of_ble_eq_true rfl) dX1_readColumn_46 ?_
      exact z_zret S (Prod.mk.inj (Option.some.inj he)) dX1_readColumn_49
    rcases z_sw he with ⟨hk2, he⟩ | ⟨hk2, he⟩
    · refine z_tabIn (tgt := 50) S dX1_readColumn_1 hk2 (by decide) (by decide) rfl (by decide) ?_
      refine z_aload_n S dX1_readColumn_50 rfl 0 rfl ?_
      refine z_getW (i := 18) (j := 318) S (by decide) rfl rfl gw_RX1_133 dX1_readColumn_51 ?_
      refine z_iconst (v := 0) S dX1_readColumn_54 (by decide) ?_
      refine z_bipush (v := 9) S dX1_readColumn_55 (by decide) ?_
      obtain ⟨⟨r5, M6⟩, h9, he⟩ := bnd he
      dsimp only at he
      refine z_cVI (As := [.ref (X.2.2 318), .int 0, .int 9]) S cv_RX1_91 (K_X1_readNamed (isW_add (i := 18) (by decide)) h9) ok_97 (by decide) (q := (RX1, TX1, 2)) rfl rfl ⟨rfl, rfl⟩ ⟨Nat.le_of_ble_eq_true rfl, Nat.le_of_ble_eq_true rfl⟩ ⟨Nat.le_refl _, Nat.le_refl _⟩ rfl rfl (Nat.le_of_ble_eq_true rfl) dX1_readColumn_57 ?_
      exact z_zret S (Prod.mk.inj (Option.some.inj he)) dX1_readColumn_60
    refine z_tabOut (tgt := 61) S dX1_readColumn_1 (sw_out3 hk0 hk1 hk2) (by decide) ?_
    refine z_aload_n S dX1_readColumn_61 rfl 0 rfl ?_
    refine z_getW (i := 5) (j := 305) S (by decide) rfl rfl gw_RX1_136 dX1_readColumn_62 ?_
    refine z_iconst (v := 0) S dX1_readColumn_65 (by decide) ?_
    refine z_bipush (v := 100) S dX1_readColumn_66 (by decide) ?_
    obtain ⟨⟨r7, M8⟩, h9, he⟩ := bnd he
    dsimp only at he
    refine z_cVI (As := [.ref (X.2.2 305), .int 0, .int 100]) S cv_RX1_91 (K_X1_readNamed (isW_add (i := 5) (by decide)) h9) ok_97 (by decide) (q := (RX1, TX1, 2)) rfl rfl ⟨rfl, rfl⟩ ⟨Nat.le_of_ble_eq_true rfl, Nat.le_of_ble_eq_true rfl⟩ ⟨Nat.le_refl _, Nat.le_refl _⟩ rfl rfl (Nat.le_of_ble_eq_true rfl) dX1_readColumn_68 ?_
    exact z_zret S (Prod.mk.inj (Option.some.inj he)) dX1_readColumn_71
set_option maxRecDepth 100000 in
set_option maxHeartbeats 4000000 in
theorem K_X7_isLetter {X : Cx} {l : Launch} {M : Mm} {a0 : Int32} {r : Bool}  (he : f_X7_isLetter M a0 = r) : KI X 0 l yX7_isLetter (wz yX7_isLetter cX7_isLetter 1 (some .boolean)) rm_X7_isLetter [.int a0] M (bI r) M := by
  intro sz
  refine K_of (Qc := (fun sz => QI X 0 (bI r) M sz)) (own := RX7) (lv0 := [(0, .int a0)]) (by decide +kernel) rfl (Nat.le_of_ble_eq_true rfl) rfl (fun p e s m args below meth c S => ?_) sz
  · unfold f_X7_isLetter at he
    refine z_iload_n S dX7_isLetter_0 rfl 0 rfl ?_
    refine z_bipush (v := 97) S dX7_isLetter_1 (by decide) ?_
    refine z_icmp_lt (tgt := 16) S he dX7_isLetter_3 (by decide) (fun he => ?_) (fun he => ?_)
    · refine z_iconst (v := 0) S dX7_isLetter_16 (by decide) ?_
      exact z_zret0 S (⟨he, rfl⟩) dX7_isLetter_17
    · refine z_iload_n S dX7_isLetter_6 rfl 0 rfl ?_
      refine z_bipush (v := 122) S dX7_isLetter_7 (by decide) ?_
      refine z_icmp_gt (tgt := 16) S he dX7_isLetter_9 (by decide) (fun he => ?_) (fun he => ?_)
      · refine z_iconst (v := 0) S dX7_isLetter_16 (by decide) ?_
        exact z_zret0 S (⟨he, rfl⟩) dX7_isLetter_17
      · refine z_iconst (v := 1) S dX7_isLetter_12 (by decide) ?_
        refine z_goto (tgt := 17) S dX7_isLetter_13 (by decide) ?_
        exact z_zret1 S (⟨he, rfl⟩) dX7_isLetter_17
set_option maxRecDepth 100000 in
set_option maxHeartbeats 4000000 in
theorem p_X7_endOfLetters_L2 {X : Cx} {p : Program} {l : Launch} {e : Env} {s : State} {m : MethodId} {args : Array Value} {below : List Frame} {meth : Method} {c : Code} (S : SB X 0 p s m args meth c cX7_endOfLetters 4 (some .int) RX7) {M : Mm} {r : Int32} {v0 : Nat} {v2 : Int32} {v3 : Int32} {x : Int32 ⊕ Int32} (h_v0 : OK 0 v0 30) (he : f_X7_endOfLetters_L2 M v0 v2 v3 = some x) (hc : ∀ b, x = .inl b → Z X 0 p l e rm_X7_endOfLetters s m args below meth c 0 0 (MQ below (QI X 0 r M s.heap.size) args s 0 0 (AA X 0 s.heap.size)) 4 M 2 [(0, .ref (X.2.2 v0)), (2, .int v2), (3, .int b)] []) (hx : ∀ b, x = .inr b → Z X 0 p l e rm_X7_endOfLetters s m args below meth c 0 0 (MQ below (QI X 0 r M s.heap.size) args s 0 0 (AA X 0 s.heap.size)) 4 M 24 [(3, .int b)] []) : Z X 0 p l e rm_X7_endOfLetters s m args below meth c 0 0 (MQ below (QI X 0 r M s.heap.size) args s 0 0 (AA X 0 s.heap.size)) 4 M 2 [(0, .ref (X.2.2 v0)), (2, .int v2), (3, .int v3)] [] := by
  unfold f_X7_endOfLetters_L2 at he
  refine z_iload_n S dX7_endOfLetters_2 rfl 2 rfl ?_
  refine z_iload_n S dX7_endOfLetters_3 rfl 1 rfl ?_
  refine z_icmp_ge (tgt := 24) S he dX7_endOfLetters_4 (by decide) (fun he => ?_) (fun he => ?_)
  · refine z_lv (ks := [2]) rfl ?_
    exact hx _ (Option.some.inj he).symm
  · refine z_aload_n S dX7_endOfLetters_7 rfl 0 rfl ?_
    refine z_iload_n S dX7_endOfLetters_8 rfl 2 rfl ?_
    refine z_cNI (As := [.ref (X.2.2 v0), .int v3]) S cn_RX7_38 (Kt_X9_at h_v0 rfl) ⟨rfl, rfl⟩ ⟨Nat.le_of_ble_eq_true rfl, Nat.le_of_ble_eq_true rfl⟩ ⟨Nat.le_refl _, Nat.le_refl _⟩ rfl rfl (Nat.le_of_ble_eq_true rfl) dX7_endOfLetters_9 ?_
    refine z_cSI (As := [.int (t_X9_at M v0 v3)]) S cs_RX7_42 (K_X7_isLetter  rfl) ⟨rfl, rfl⟩ ⟨Nat.le_of_ble_eq_true rfl, Nat.le_of_ble_eq_true rfl⟩ ⟨Nat.le_refl _, Nat.le_refl _⟩ rfl rfl (Nat.le_of_ble_eq_true rfl) dX7_endOfLetters_12 ?_
    refine z_ifb_eq (tgt := 24) S he dX7_endOfLetters_15 (by decide) (fun he => ?_) (fun he => ?_)
    · refine z_lv (ks := [2]) rfl ?_
      exact hx _ (Option.some.inj he).symm
    · refine z_iinc (v := (v3 + 1)) (lv' := [(0, .ref (X.2.2 v0)), (2, .int v2), (3, .int (v3 + 1))]) S [1, 2, 0] 2 dX7_endOfLetters_18 rfl (by rfl) (by decide) rfl ?_
      refine z_goto (tgt := 2) S dX7_endOfLetters_21 (by decide) ?_
      refine z_lv (ks := [0, 1, 2]) rfl ?_
      exact hc _ (Option.some.inj he).symm
set_option maxRecDepth 100000 in
set_option maxHeartbeats 4000000 in
theorem K_X7_endOfLetters {X : Cx} {l : Launch} {M : Mm} {a0 : Nat} {a1 : Int32} {a2 : Int32} {r : Int32} (h_a0 : OK 0 a0 30) (he : f_X7_endOfLetters M a0 a1 a2 = some r) : KI X 0 l yX7_endOfLetters (wz yX7_endOfLetters cX7_endOfLetters 4 (some .int)) rm_X7_endOfLetters [.ref (X.2.2 a0), .int a1, .int a2] M r M := by
  intro sz
  refine K_of (Qc := (fun sz => QI X 0 r M sz)) (own := RX7) (lv0 := [(0, .ref (X.2.2 a0)), (1, .int a1), (2, .int a2)]) (by decide +kernel) rfl (Nat.le_of_ble_eq_true rfl) rfl (fun p e s m args below meth c S => ?_) sz
  · unfold f_X7_endOfLetters at he
    refine z_iload_n S dX7_endOfLetters_0 rfl 1 rfl ?_
    refine z_istore_n (lv' := [(0, .ref (X.2.2 a0)), (2, .int a2), (3, .int a1)]) S [1, 3, 0] dX7_endOfLetters_1 rfl (by decide) rfl ?_
    obtain ⟨e_1, hl, he⟩ := bnd he
    have hX : Z X 0 p l e rm_X7_endOfLetters s m args below meth c 0 0 (MQ below (QI X 0 r M s.heap.size) args s 0 0 (AA X 0 s.heap.size)) 4 M 24 [(3, .int e_1)] [] := by
      refine z_iload_n S dX7_endOfLetters_24 rfl 0 rfl ?_
      exact z_iret S (⟨Option.some.inj he, rfl⟩) dX7_endOfLetters_25
    have hZ9 := loopZ (f := (fun a_1 => f_X7_endOfLetters_L2 M a0 a2 a_1)) (Zh := (fun a_1 => Z X 0 p l e rm_X7_endOfLetters s m args below meth c 0 0 (MQ below (QI X 0 r M s.heap.size) args s 0 0 (AA X 0 s.heap.size)) 4 M 2 [(0, .ref (X.2.2 a0)), (2, .int a2), (3, .int a_1)] [])) (fun a_1 x hb hc hr => p_X7_endOfLetters_L2 S h_a0 hb hc (fun b hxe => by rw [hr b hxe]; exact hX)) FU a1 hl
    exact hZ9
set_option maxRecDepth 100000 in
set_option maxHeartbeats 4000000 in
theorem p_X7_isSpelled_L15 {X : Cx} {p : Program} {l : Launch} {e : Env} {s : State} {m : MethodId} {args : Array Value} {below : List Frame} {meth : Method} {c : Code} (S : SB X 0 p s m args meth c cX7_isSpelled 5 (some .boolean) RX7) {M : Mm} {r : Bool} {v0 : Nat} {v1 : Nat} {v2 : Int32} {v4 : Int32} {x : Int32 ⊕ ((Bool) ⊕ Unit)} (h_v0 : isT v0 = true) (h_v1 : OK 0 v1 30) (he : f_X7_isSpelled_L15 M v0 v1 v2 v4 = some x) (hc : ∀ b, x = .inl b → Z X 0 p l e rm_X7_isSpelled s m args below meth c 0 0 (MQ below (QI X 0 (bI r) M s.heap.size) args s 0 0 (AA X 0 s.heap.size)) 5 M 15 [(0, .ref (X.2.2 v0)), (1, .ref (X.2.2 v1)), (2, .int v2), (4, .int b)] []) (hx : ∀ b, x = .inr (.inr b) → Z X 0 p l e rm_X7_isSpelled s m args below meth c 0 0 (MQ below (QI X 0 (bI r) M s.heap.size) args s 0 0 (AA X 0 s.heap.size)) 5 M 49 [] []) (hr : ∀ v, x = .inr (.inl v) → v = r) : Z X 0 p l e rm_X7_isSpelled s m args below meth c 0 0 (MQ below (QI X 0 (bI r) M s.heap.size) args s 0 0 (AA X 0 s.heap.size)) 5 M 15 [(0, .ref (X.2.2 v0)), (1, .ref (X.2.2 v1)), (2, .int v2), (4, .int v4)] [] := by
  unfold f_X7_isSpelled_L15 at he
  refine z_iload S dX7_isSpelled_15 3 rfl ?_
  refine z_aload_n S dX7_isSpelled_17 rfl 0 rfl ?_
  refine z_cTI (As := []) S cv_RX7_103 (K_J0_length_8abf5 h_v0 rfl) h_v0 ⟨rfl, rfl⟩ ⟨Nat.le_of_ble_eq_true rfl, Nat.le_of_ble_eq_true rfl⟩ ⟨Nat.le_refl _, Nat.le_refl _⟩ rfl rfl (Nat.le_of_ble_eq_true rfl) dX7_isSpelled_18 ?_
  refine z_icmp_ge (tgt := 49) S he dX7_isSpelled_21 (by decide) (fun he => ?_) (fun he => ?_)
  · refine z_lv (ks := []) rfl ?_
    exact hx _ (Option.some.inj he).symm
  · refine z_aload_n S dX7_isSpelled_24 rfl 0 rfl ?_
    refine z_iload S dX7_isSpelled_25 3 rfl ?_
    obtain ⟨r1, h9, he⟩ := bnd he
    refine z_cTI (As := [.int v4]) S cv_RX7_109 (K_J0_charAt_5068e h_v0 h9) h_v0 ⟨rfl, rfl⟩ ⟨Nat.le_of_ble_eq_true rfl, Nat.le_of_ble_eq_true rfl⟩ ⟨Nat.le_refl _, Nat.le_refl _⟩ rfl rfl (Nat.le_of_ble_eq_true rfl) dX7_isSpelled_27 ?_
    refine z_aload_n S dX7_isSpelled_30 rfl 1 rfl ?_
    refine z_iload_n S dX7_isSpelled_31 rfl 2 rfl ?_
    refine z_iload S dX7_isSpelled_32 3 rfl ?_
    refine z_iadd S dX7_isSpelled_34 ?_
    refine z_cNI (As := [.ref (X.2.2 v1), .int (v2 + v4)]) S cn_RX7_38 (Kt_X9_at h_v1 rfl) ⟨rfl, rfl⟩ ⟨Nat.le_of_ble_eq_true rfl, Nat.le_of_ble_eq_true rfl⟩ ⟨Nat.le_refl _, Nat.le_refl _⟩ rfl rfl (Nat.le_of_ble_eq_true rfl) dX7_isSpelled_35 ?_
    refine z_icmp_eq (tgt := 43) S he dX7_isSpelled_38 (by decide) (fun he => ?_) (fun he => ?_)
    · refine z_iinc (v := (v4 + 1)) (lv' := [(0, .ref (X.2.2 v0)), (1, .ref (X.2.2 v1)), (2, .int v2), (4, .int (v4 + 1))]) S [1, 2, 3, 0] 3 dX7_isSpelled_43 rfl (by rfl) (by decide) rfl ?_
      refine z_goto (tgt := 15) S dX7_isSpelled_46 (by decide) ?_
      refine z_lv (ks := [0, 1, 2, 3]) rfl ?_
      exact hc _ (Option.some.inj he).symm
    · refine z_iconst (v := 0) S dX7_isSpelled_41 (by decide) ?_
      exact z_zret0 S (⟨hr _ (Option.some.inj he).symm, rfl⟩) dX7_isSpelled_42
set_option maxRecDepth 100000 in
set_option maxHeartbeats 4000000 in
theorem K_X7_isSpelled {X : Cx} {l : Launch} {M : Mm} {a0 : Nat} {a1 : Nat} {a2 : Int32} {a3 : Int32} {r : Bool} (h_a0 : isT a0 = true) (h_a1 : OK 0 a1 30) (he : f_X7_isSpelled M a0 a1 a2 a3 = some r) : KI X 0 l yX7_isSpelled (wz yX7_isSpelled cX7_isSpelled 5 (some .boolean)) rm_X7_isSpelled [.ref (X.2.2 a0), .ref (X.2.2 a1), .int a2, .int a3] M (bI r) M := by
  intro sz
  refine K_of (Qc := (fun sz => QI X 0 (bI r) M sz)) (own := RX7) (lv0 := [(0, .ref (X.2.2 a0)), (1, .ref (X.2.2 a1)), (2, .int a2), (3, .int a3)]) (by decide +kernel) rfl (Nat.le_of_ble_eq_true rfl) rfl (fun p e s m args below meth c S => ?_) sz
  · unfold f_X7_isSpelled at he
    refine z_aload_n S dX7_isSpelled_0 rfl 0 rfl ?_
    refine z_cTI (As := []) S cv_RX7_103 (K_J0_length_8abf5 h_a0 rfl) h_a0 ⟨rfl, rfl⟩ ⟨Nat.le_of_ble_eq_true rfl, Nat.le_of_ble_eq_true rfl⟩ ⟨Nat.le_refl _, Nat.le_refl _⟩ rfl rfl (Nat.le_of_ble_eq_true rfl) dX7_isSpelled_1 ?_
    refine z_iload_n S dX7_isSpelled_4 rfl 3 rfl ?_
    refine z_iload_n S dX7_isSpelled_5 rfl 2 rfl ?_
    refine z_isub S dX7_isSpelled_6 ?_
    refine z_icmp_eq (tgt := 12) S he dX7_isSpelled_7 (by decide) (fun he => ?_) (fun he => ?_)
    · refine z_iconst (v := 0) S dX7_isSpelled_12 (by decide) ?_
      refine z_istore (lv' := [(0, .ref (X.2.2 a0)), (1, .ref (X.2.2 a1)), (2, .int a2), (4, .int 0)]) S [1, 2, 3, 0] dX7_isSpelled_13 (by decide) rfl ?_
      obtain ⟨r9, hl, hr1, hr2⟩ := bndS he
      have hX : ∀ e_2, r9 = .inr e_2 → Z X 0 p l e rm_X7_isSpelled s m args below meth c 0 0 (MQ below (QI X 0 (bI r) M s.heap.size) args s 0 0 (AA X 0 s.heap.size)) 5 M 49 [] [] := by
        intro e_2 hre
        have he := hr2 e_2 hre
        refine z_iconst (v := 1) S dX7_isSpelled_49 (by decide) ?_
        exact z_zret1 S (⟨Option.some.inj he, rfl⟩) dX7_isSpelled_50
      have hZ9 := loopZ (f := (fun a_2 => f_X7_isSpelled_L15 M a0 a1 a2 a_2)) (Zh := (fun a_2 => Z X 0 p l e rm_X7_isSpelled s m args below meth c 0 0 (MQ below (QI X 0 (bI r) M s.heap.size) args s 0 0 (AA X 0 s.heap.size)) 5 M 15 [(0, .ref (X.2.2 a0)), (1, .ref (X.2.2 a1)), (2, .int a2), (4, .int a_2)] [])) (fun a_2 x hb hc hr9 => p_X7_isSpelled_L15 S h_a0 h_a1 hb hc (fun b hxe => hX b (hr9 _ hxe).symm) (fun v hxv => Option.some.inj (hr1 v (hr9 _ hxv).symm))) FU 0 hl
      exact hZ9
    · refine z_iconst (v := 0) S dX7_isSpelled_10 (by decide) ?_
      exact z_zret0 S (⟨Option.some.inj he, rfl⟩) dX7_isSpelled_11
set_option maxRecDepth 100000 in
set_option maxHeartbeats 4000000 in
theorem p_X7_spelled_L2 {X : Cx} {p : Program} {l : Launch} {e : Env} {s : State} {m : MethodId} {args : Array Value} {below : List Frame} {meth : Method} {c : Code} (S : SB X 0 p s m args meth c cX7_spelled 4 (some (.object RX8)) RX7) {M : Mm} {r : Nat} {v0 : Nat} {v1 : Int32} {v2 : Int32} {v3 : Int32} {x : Int32 ⊕ ((Nat) ⊕ Unit)} (h_v0 : OK 0 v0 30) (he : f_X7_spelled_L2 M v0 v1 v2 v3 = some x) (hc : ∀ b, x = .inl b → Z X 0 p l e rm_X7_spelled s m args below meth c 0 0 (MQ below (QR X 0 r M s.heap.size) args s 0 0 (AA X 0 s.heap.size)) 4 M 2 [(0, .ref (X.2.2 v0)), (1, .int v1), (2, .int v2), (3, .int b)] []) (hx : ∀ b, x = .inr (.inr b) → Z X 0 p l e rm_X7_spelled s m args below meth c 0 0 (MQ below (QR X 0 r M s.heap.size) args s 0 0 (AA X 0 s.heap.size)) 4 M 39 [] []) (hr : ∀ v, x = .inr (.inl v) → v = r) : Z X 0 p l e rm_X7_spelled s m args below meth c 0 0 (MQ below (QR X 0 r M s.heap.size) args s 0 0 (AA X 0 s.heap.size)) 4 M 2 [(0, .ref (X.2.2 v0)), (1, .int v1), (2, .int v2), (3, .int v3)] [] := by
  unfold f_X7_spelled_L2 at he
  refine z_iload_n S dX7_spelled_2 rfl 3 rfl ?_
  refine z_words S gn_RX7_89 dX7_spelled_3 ?_
  refine z_wlen S dX7_spelled_6 ?_
  refine z_icmp_ge (tgt := 39) S he dX7_spelled_7 (by decide) (fun he => ?_) (fun he => ?_)
  · refine z_lv (ks := []) rfl ?_
    exact hx _ (Option.some.inj he).symm
  · refine z_words S gn_RX7_89 dX7_spelled_10 ?_
    refine z_iload_n S dX7_spelled_13 rfl 3 rfl ?_
    refine z_wald S he dX7_spelled_14 (fun hw0 he => ?_)
    refine z_spel S (isW_x hw0) gs_RX7_92 dX7_spelled_15 ?_
    refine z_aload_n S dX7_spelled_18 rfl 0 rfl ?_
    refine z_iload_n S dX7_spelled_19 rfl 1 rfl ?_
    refine z_iload_n S dX7_spelled_20 rfl 2 rfl ?_
    obtain ⟨r2, h9, he⟩ := bnd he
    refine z_cSI (As := [.ref (X.2.2 (spq (300 + Int32.toNatClampNeg v3))), .ref (X.2.2 v0), .int v1, .int v2]) S cs_RX7_96 (K_X7_isSpelled (isT_spq (isW_x hw0)) h_v0 h9) ⟨rfl, rfl⟩ ⟨Nat.le_of_ble_eq_true rfl, Nat.le_of_ble_eq_true rfl⟩ ⟨Nat.le_refl _, Nat.le_refl _⟩ rfl rfl (Nat.le_of_ble_eq_true rfl) dX7_spelled_21 ?_
    refine z_ifb_eq (tgt := 33) S he dX7_spelled_24 (by decide) (fun he => ?_) (fun he => ?_)
    · refine z_iinc (v := (v3 + 1)) (lv' := [(0, .ref (X.2.2 v0)), (1, .int v1), (2, .int v2), (3, .int (v3 + 1))]) S [1, 2, 3, 0] 3 dX7_spelled_33 rfl (by rfl) (by decide) rfl ?_
      refine z_goto (tgt := 2) S dX7_spelled_36 (by decide) ?_
      refine z_lv (ks := [0, 1, 2, 3]) rfl ?_
      exact hc _ (Option.some.inj he).symm
    · refine z_words S gn_RX7_89 dX7_spelled_27 ?_
      refine z_iload_n S dX7_spelled_30 rfl 3 rfl ?_
      refine z_wald S he dX7_spelled_31 (fun hw2 he => ?_)
      exact z_aret S (⟨hr _ (Option.some.inj he).symm, rfl⟩) dX7_spelled_32
set_option maxRecDepth 100000 in
set_option maxHeartbeats 4000000 in
theorem K_X7_spelled {X : Cx} {l : Launch} {M : Mm} {a0 : Nat} {a1 : Int32} {a2 : Int32} {r : Nat} (h_a0 : OK 0 a0 30) (he : f_X7_spelled M a0 a1 a2 = some r) : KR X 0 l yX7_spelled (wz yX7_spelled cX7_spelled 4 (some (.object RX8))) rm_X7_spelled [.ref (X.2.2 a0), .int a1, .int a2] M r M := by
  intro sz
  refine K_of (Qc := (fun sz => QR X 0 r M sz)) (own := RX7) (lv0 := [(0, .ref (X.2.2 a0)), (1, .int a1), (2, .int a2)]) (by decide +kernel) rfl (Nat.le_of_ble_eq_true rfl) rfl (fun p e s m args below meth c S => ?_) sz
  · unfold f_X7_spelled at he
    refine z_iconst (v := 0) S dX7_spelled_0 (by decide) ?_
    refine z_istore_n (lv' := [(0, .ref (X.2.2 a0)), (1, .int a1), (2, .int a2), (3, .int 0)]) S [1, 2, 3, 0] dX7_spelled_1 rfl (by decide) rfl ?_
    obtain ⟨r9, hl, hr1, hr2⟩ := bndS he
    have hX : ∀ e_4, r9 = .inr e_4 → Z X 0 p l e rm_X7_spelled s m args below meth c 0 0 (MQ below (QR X 0 r M s.heap.size) args s 0 0 (AA X 0 s.heap.size)) 4 M 39 [] [] := by
      intro e_4 hre
      have he := hr2 e_4 hre
      refine z_getW (i := 29) (j := 329) S (by decide) rfl rfl gw_RX7_100 dX7_spelled_39 ?_
      exact z_aret S (⟨Option.some.inj he, rfl⟩) dX7_spelled_42
    have hZ9 := loopZ (f := (fun a_4 => f_X7_spelled_L2 M a0 a1 a2 a_4)) (Zh := (fun a_4 => Z X 0 p l e rm_X7_spelled s m args below meth c 0 0 (MQ below (QR X 0 r M s.heap.size) args s 0 0 (AA X 0 s.heap.size)) 4 M 2 [(0, .ref (X.2.2 a0)), (1, .int a1), (2, .int a2), (3, .int a_4)] [])) (fun a_4 x hb hc hr9 => p_X7_spelled_L2 S h_a0 hb hc (fun b hxe => hX b (hr9 _ hxe).symm) (fun v hxv => Option.some.inj (hr1 v (hr9 _ hxv).symm))) FU 0 hl
    exact hZ9
set_option maxRecDepth 100000 in
set_option maxHeartbeats 4000000 in
theorem p_X7_marksOf_L5 {X : Cx} {p : Program} {l : Launch} {e : Env} {s : State} {m : MethodId} {args : Array Value} {below : List Frame} {meth : Method} {c : Code} (S : SB X 0 p s m args meth c cX7_marksOf 6 (some .int) RX7) {M : Mm} {r : Int32} {v0 : Nat} {v2 : Int32} {v3 : Int32} {v4 : Int32} {x : (Int32 × Int32) ⊕ ((Int32) ⊕ Int32)} (h_v0 : OK 0 v0 30) (he : f_X7_marksOf_L5 M v0 v2 v3 v4 = some x) (hc : ∀ b, x = .inl b → Z X 0 p l e rm_X7_marksOf s m args below meth c 0 0 (MQ below (QI X 0 r M s.heap.size) args s 0 0 (AA X 0 s.heap.size)) 6 M 5 [(0, .ref (X.2.2 v0)), (2, .int v2), (3, .int b.1), (4, .int b.2)] []) (hx : ∀ b, x = .inr (.inr b) → Z X 0 p l e rm_X7_marksOf s m args below meth c 0 0 (MQ below (QI X 0 r M s.heap.size) args s 0 0 (AA X 0 s.heap.size)) 6 M 54 [(3, .int b)] []) (hr : ∀ v, x = .inr (.inl v) → v = r) : Z X 0 p l e rm_X7_marksOf s m args below meth c 0 0 (MQ below (QI X 0 r M s.heap.size) args s 0 0 (AA X 0 s.heap.size)) 6 M 5 [(0, .ref (X.2.2 v0)), (2, .int v2), (3, .int v3), (4, .int v4)] [] := by
  unfold f_X7_marksOf_L5 at he
  refine z_iload S dX7_marksOf_5 3 rfl ?_
  refine z_iload_n S dX7_marksOf_7 rfl 1 rfl ?_
  refine z_icmp_ge (tgt := 54) S he dX7_marksOf_8 (by decide) (fun he => ?_) (fun he => ?_)
  · refine z_lv (ks := [2]) rfl ?_
    exact hx _ (Option.some.inj he).symm
  · refine z_aload_n S dX7_marksOf_11 rfl 0 rfl ?_
    refine z_iload S dX7_marksOf_12 3 rfl ?_
    refine z_cNI (As := [.ref (X.2.2 v0), .int v4]) S cn_RX7_38 (Kt_X9_at h_v0 rfl) ⟨rfl, rfl⟩ ⟨Nat.le_of_ble_eq_true rfl, Nat.le_of_ble_eq_true rfl⟩ ⟨Nat.le_refl _, Nat.le_refl _⟩ rfl rfl (Nat.le_of_ble_eq_true rfl) dX7_marksOf_14 ?_
    refine z_bipush (v := 97) S dX7_marksOf_17 (by decide) ?_
    refine z_isub S dX7_marksOf_19 ?_
    refine z_istore (lv' := [(0, .ref (X.2.2 v0)), (2, .int v2), (3, .int v3), (4, .int v4), (5, .int ((t_X9_at M v0 v4) - 97))]) S [1, 2, 3, 4, 0] dX7_marksOf_20 (by decide) rfl ?_
    refine z_iload S dX7_marksOf_22 4 rfl ?_
    refine z_bipush (v := 6) S dX7_marksOf_24 (by decide) ?_
    refine z_icmp_ge (tgt := 39) S he dX7_marksOf_26 (by decide) (fun he => ?_) (fun he => ?_)
    · refine z_iconst (v := (-1)) S dX7_marksOf_39 (by decide) ?_
      exact z_iret S (⟨hr _ (Option.some.inj he).symm, rfl⟩) dX7_marksOf_40
    · refine z_iload_n S dX7_marksOf_29 rfl 2 rfl ?_
      refine z_iload S dX7_marksOf_30 4 rfl ?_
      refine z_ishr S dX7_marksOf_32 ?_
      refine z_iconst (v := 1) S dX7_marksOf_33 (by decide) ?_
      refine z_iand S dX7_marksOf_34 ?_
      refine z_iconst (v := 1) S dX7_marksOf_35 (by decide) ?_
      refine z_icmp_ne (tgt := 41) S he dX7_marksOf_36 (by decide) (fun he => ?_) (fun he => ?_)
      · refine z_iload_n S dX7_marksOf_41 rfl 2 rfl ?_
        refine z_iconst (v := 1) S dX7_marksOf_42 (by decide) ?_
        refine z_iload S dX7_marksOf_43 4 rfl ?_
        refine z_ishl S dX7_marksOf_45 ?_
        refine z_ior S dX7_marksOf_46 ?_
        obtain ⟨x1, ex1, he⟩ := bnd he
        rw [Option.some.inj ex1]
        refine z_istore_n (lv' := [(0, .ref (X.2.2 v0)), (2, .int v2), (3, .int x1), (4, .int v4)]) S [1, 2, 0, 3] dX7_marksOf_47 rfl (by decide) rfl ?_
        refine z_iinc (v := (v4 + 1)) (lv' := [(0, .ref (X.2.2 v0)), (2, .int v2), (3, .int x1), (4, .int (v4 + 1))]) S [1, 2, 3, 0] 3 dX7_marksOf_48 rfl (by rfl) (by decide) rfl ?_
        refine z_goto (tgt := 5) S dX7_marksOf_51 (by decide) ?_
        refine z_lv (ks := [0, 1, 2, 3]) rfl ?_
        exact hc _ (Option.some.inj he).symm
      · refine z_iconst (v := (-1)) S dX7_marksOf_39 (by decide) ?_
        exact z_iret S (⟨hr _ (Option.some.inj he).symm, rfl⟩) dX7_marksOf_40
set_option maxRecDepth 100000 in
set_option maxHeartbeats 4000000 in
theorem K_X7_marksOf {X : Cx} {l : Launch} {M : Mm} {a0 : Nat} {a1 : Int32} {a2 : Int32} {r : Int32} (h_a0 : OK 0 a0 30) (he : f_X7_marksOf M a0 a1 a2 = some r) : KI X 0 l yX7_marksOf (wz yX7_marksOf cX7_marksOf 6 (some .int)) rm_X7_marksOf [.ref (X.2.2 a0), .int a1, .int a2] M r M := by
  intro sz
  refine K_of (Qc := (fun sz => QI X 0 r M sz)) (own := RX7) (lv0 := [(0, .ref (X.2.2 a0)), (1, .int a1), (2, .int a2)]) (by decide +kernel) rfl (Nat.le_of_ble_eq_true rfl) rfl (fun p e s m args below meth c S => ?_) sz
  · unfold f_X7_marksOf at he
    refine z_iconst (v := 0) S dX7_marksOf_0 (by decide) ?_
    refine z_istore_n (lv' := [(0, .ref (X.2.2 a0)), (1, .int a1), (2, .int a2), (3, .int 0)]) S [1, 2, 3, 0] dX7_marksOf_1 rfl (by decide) rfl ?_
    refine z_iload_n S dX7_marksOf_2 rfl 1 rfl ?_
    refine z_istore (lv' := [(0, .ref (X.2.2 a0)), (2, .int a2), (3, .int 0), (4, .int a1)]) S [1, 3, 4, 0] dX7_marksOf_3 (by decide) rfl ?_
    obtain ⟨r9, hl, hr1, hr2⟩ := bndS he
    have hX : ∀ e_2, r9 = .inr e_2 → Z X 0 p l e rm_X7_marksOf s m args below meth c 0 0 (MQ below (QI X 0 r M s.heap.size) args s 0 0 (AA X 0 s.heap.size)) 6 M 54 [(3, .int e_2)] [] := by
      intro e_2 hre
      have he := hr2 e_2 hre
      refine z_iload_n S dX7_marksOf_54 rfl 0 rfl ?_
      exact z_iret S (⟨Option.some.inj he, rfl⟩) dX7_marksOf_55
    have hZ9 := loopZ (f := (fun a_2 => f_X7_marksOf_L5 M a0 a2 a_2.1 a_2.2)) (Zh := (fun a_2 => Z X 0 p l e rm_X7_marksOf s m args below meth c 0 0 (MQ below (QI X 0 r M s.heap.size) args s 0 0 (AA X 0 s.heap.size)) 6 M 5 [(0, .ref (X.2.2 a0)), (2, .int a2), (3, .int a_2.1), (4, .int a_2.2)] [])) (fun a_2 x hb hc hr9 => p_X7_marksOf_L5 S h_a0 hb hc (fun b hxe => hX b (hr9 _ hxe).symm) (fun v hxv => Option.some.inj (hr1 v (hr9 _ hxv).symm))) FU (0, a1) hl
    exact hZ9
set_option maxRecDepth 100000 in
set_option maxHeartbeats 4000000 in
theorem K_X7_add {X : Cx} {l : Launch} {M : Mm} {a0 : Nat} {a1 : Nat} {a2 : Int32} {a3 : Int32} {N : Mm} (h_a0 : OK 0 a0 7) (h_a1 : isW a1 = true) (he : f_X7_add M a0 a1 a2 a3 = some N) : KV X 0 l yX7_add (wz yX7_add cX7_add 4 none) rm_X7_add [.ref (X.2.2 a0), .ref (X.2.2 a1), .int a2, .int a3] M N := by
  intro sz
  refine K_of (Qc := (fun sz => QV X 0 N sz)) (own := RX7) (lv0 := [(0, .ref (X.2.2 a0)), (1, .ref (X.2.2 a1)), (2, .int a2), (3, .int a3)]) (by decide +kernel) rfl (Nat.le_of_ble_eq_true rfl) rfl (fun p e s m args below meth c S => ?_) sz
  · unfold f_X7_add at he
    refine z_aload_n S dX7_add_0 rfl 0 rfl ?_
    refine z_getI S fo_RX7_35 rfl h_a0 dX7_add_1 ?_
    refine z_if_lt (tgt := 63) S he dX7_add_4 (by decide) (fun he => ?_) (fun he => ?_)
    · exact z_vret S (Option.some.inj he) dX7_add_63
    · refine z_aload_n S dX7_add_7 rfl 0 rfl ?_
      refine z_getI S fo_RX7_35 rfl h_a0 dX7_add_8 ?_
      refine z_aload_n S dX7_add_11 rfl 0 rfl ?_
      refine z_getF (j := (a0 + 1)) S fo_RX7_11 1 rfl rfl h_a0 dX7_add_12 ?_
      refine z_alen (v := 401) S (okf7_1 h_a0).1 (cel_w (okf7_1 h_a0).1.2.2) rfl (okf7_1 h_a0).2 rfl dX7_add_15 ?_
      refine z_icmp_ge (tgt := 63) S he dX7_add_16 (by decide) (fun he => ?_) (fun he => ?_)
      · exact z_vret S (Option.some.inj he) dX7_add_63
      · refine z_aload_n S dX7_add_19 rfl 0 rfl ?_
        refine z_getF (j := (a0 + 1)) S fo_RX7_11 1 rfl rfl h_a0 dX7_add_20 ?_
        refine z_aload_n S dX7_add_23 rfl 0 rfl ?_
        refine z_getI S fo_RX7_35 rfl h_a0 dX7_add_24 ?_
        refine z_aload_n S dX7_add_27 rfl 1 rfl ?_
        refine z_wast S (okf7_1 h_a0).1 (okf7_1 h_a0).2 h_a1 he dX7_add_28 (fun M1 he => ?_)
        refine z_aload_n S dX7_add_29 rfl 0 rfl ?_
        refine z_getF (j := (a0 + 2)) S fo_RX7_17 2 rfl rfl h_a0 dX7_add_30 ?_
        refine z_aload_n S dX7_add_33 rfl 0 rfl ?_
        refine z_getI S fo_RX7_35 rfl h_a0 dX7_add_34 ?_
        refine z_iload_n S dX7_add_37 rfl 2 rfl ?_
        obtain ⟨M2, h9, he⟩ := bnd he
        refine z_cNV (As := [.ref (X.2.2 (a0 + 2)), .int (gI M1 a0 3), .int a2]) S cn_RX7_85 (Kt_X9_put (okf7_2 h_a0).1 (Option.some.inj h9)) ⟨rfl, rfl⟩ ⟨Nat.le_of_ble_eq_true rfl, Nat.le_of_ble_eq_true rfl⟩ ⟨Nat.le_refl _, Nat.le_refl _⟩ rfl rfl (Nat.le_of_ble_eq_true rfl) dX7_add_38 ?_
        refine z_aload_n S dX7_add_41 rfl 0 rfl ?_
        refine z_getF (j := (a0 + 3)) S fo_RX7_21 3 rfl rfl h_a0 dX7_add_42 ?_
        refine z_aload_n S dX7_add_45 rfl 0 rfl ?_
        refine z_getI S fo_RX7_35 rfl h_a0 dX7_add_46 ?_
        refine z_iload_n S dX7_add_49 rfl 3 rfl ?_
        obtain ⟨M3, h9, he⟩ := bnd he
        refine z_cNV (As := [.ref (X.2.2 (a0 + 3)), .int (gI M2 a0 3), .int a3]) S cn_RX7_85 (Kt_X9_put (okf7_3 h_a0).1 (Option.some.inj h9)) ⟨rfl, rfl⟩ ⟨Nat.le_of_ble_eq_true rfl, Nat.le_of_ble_eq_true rfl⟩ ⟨Nat.le_refl _, Nat.le_refl _⟩ rfl rfl (Nat.le_of_ble_eq_true rfl) dX7_add_50 ?_
        refine z_aload_n S dX7_add_53 rfl 0 rfl ?_
        refine z_dup S rfl dX7_add_54 ?_
        refine z_getI S fo_RX7_35 rfl h_a0 dX7_add_55 ?_
        refine z_iconst (v := 1) S dX7_add_58 (by decide) ?_
        refine z_iadd S dX7_add_59 ?_
        refine z_putIb S fo_RX7_35p rfl h_a0 rfl rfl he dX7_add_60 (fun M4 he => ?_)
        exact z_vret S (Option.some.inj he) dX7_add_63
set_option maxRecDepth 100000 in
set_option maxHeartbeats 4000000 in
theorem K_X7_isDigit {X : Cx} {l : Launch} {M : Mm} {a0 : Int32} {r : Bool}  (he : f_X7_isDigit M a0 = r) : KI X 0 l yX7_isDigit (wz yX7_isDigit cX7_isDigit 1 (some .boolean)) rm_X7_isDigit [.int a0] M (bI r) M := by
  intro sz
  refine K_of (Qc := (fun sz => QI X 0 (bI r) M sz)) (own := RX7) (lv0 := [(0, .int a0)]) (by decide +kernel) rfl (Nat.le_of_ble_eq_true rfl) rfl (fun p e s m args below meth c S => ?_) sz
  · unfold f_X7_isDigit at he
    refine z_iload_n S dX7_isDigit_0 rfl 0 rfl ?_
    refine z_bipush (v := 48) S dX7_isDigit_1 (by decide) ?_
    refine z_icmp_lt (tgt := 16) S he dX7_isDigit_3 (by decide) (fun he => ?_) (fun he => ?_)
    · refine z_iconst (v := 0) S dX7_isDigit_16 (by decide) ?_
      exact z_zret0 S (⟨he, rfl⟩) dX7_isDigit_17
    · refine z_iload_n S dX7_isDigit_6 rfl 0 rfl ?_
      refine z_bipush (v := 57) S dX7_isDigit_7 (by decide) ?_
      refine z_icmp_gt (tgt := 16) S he dX7_isDigit_9 (by decide) (fun he => ?_) (fun he => ?_)
      · refine z_iconst (v := 0) S dX7_isDigit_16 (by decide) ?_
        exact z_zret0 S (⟨he, rfl⟩) dX7_isDigit_17
      · refine z_iconst (v := 1) S dX7_isDigit_12 (by decide) ?_
        refine z_goto (tgt := 17) S dX7_isDigit_13 (by decide) ?_
        exact z_zret1 S (⟨he, rfl⟩) dX7_isDigit_17
set_option maxRecDepth 100000 in
set_option maxHeartbeats 4000000 in
theorem p_X7_endOfDigits_L2 {X : Cx} {p : Program} {l : Launch} {e : Env} {s : State} {m : MethodId} {args : Array Value} {below : List Frame} {meth : Method} {c : Code} (S : SB X 0 p s m args meth c cX7_endOfDigits 4 (some .int) RX7) {M : Mm} {r : Int32} {v0 : Nat} {v2 : Int32} {v3 : Int32} {x : Int32 ⊕ Int32} (h_v0 : OK 0 v0 30) (he : f_X7_endOfDigits_L2 M v0 v2 v3 = some x) (hc : ∀ b, x = .inl b → Z X 0 p l e rm_X7_endOfDigits s m args below meth c 0 0 (MQ below (QI X 0 r M s.heap.size) args s 0 0 (AA X 0 s.heap.size)) 4 M 2 [(0, .ref (X.2.2 v0)), (2, .int v2), (3, .int b)] []) (hx : ∀ b, x = .inr b → Z X 0 p l e rm_X7_endOfDigits s m args below meth c 0 0 (MQ below (QI X 0 r M s.heap.size) args s 0 0 (AA X 0 s.heap.size)) 4 M 24 [(3, .int b)] []) : Z X 0 p l e rm_X7_endOfDigits s m args below meth c 0 0 (MQ below (QI X 0 r M s.heap.size) args s 0 0 (AA X 0 s.heap.size)) 4 M 2 [(0, .ref (X.2.2 v0)), (2, .int v2), (3, .int v3)] [] := by
  unfold f_X7_endOfDigits_L2 at he
  refine z_iload_n S dX7_endOfDigits_2 rfl 2 rfl ?_
  refine z_iload_n S dX7_endOfDigits_3 rfl 1 rfl ?_
  refine z_icmp_ge (tgt := 24) S he dX7_endOfDigits_4 (by decide) (fun he => ?_) (fun he => ?_)
  · refine z_lv (ks := [2]) rfl ?_
    exact hx _ (Option.some.inj he).symm
  · refine z_aload_n S dX7_endOfDigits_7 rfl 0 rfl ?_
    refine z_iload_n S dX7_endOfDigits_8 rfl 2 rfl ?_
    refine z_cNI (As := [.ref (X.2.2 v0), .int v3]) S cn_RX7_38 (Kt_X9_at h_v0 rfl) ⟨rfl, rfl⟩ ⟨Nat.le_of_ble_eq_true rfl, Nat.le_of_ble_eq_true rfl⟩ ⟨Nat.le_refl _, Nat.le_refl _⟩ rfl rfl (Nat.le_of_ble_eq_true rfl) dX7_endOfDigits_9 ?_
    refine z_cSI (As := [.int (t_X9_at M v0 v3)]) S cs_RX7_61 (K_X7_isDigit  rfl) ⟨rfl, rfl⟩ ⟨Nat.le_of_ble_eq_true rfl, Nat.le_of_ble_eq_true rfl⟩ ⟨Nat.le_refl _, Nat.le_refl _⟩ rfl rfl (Nat.le_of_ble_eq_true rfl) dX7_endOfDigits_12 ?_
    refine z_ifb_eq (tgt := 24) S he dX7_endOfDigits_15 (by decide) (fun he => ?_) (fun he => ?_)
    · refine z_lv (ks := [2]) rfl ?_
      exact hx _ (Option.some.inj he).symm
    · refine z_iinc (v := (v3 + 1)) (lv' := [(0, .ref (X.2.2 v0)), (2, .int v2), (3, .int (v3 + 1))]) S [1, 2, 0] 2 dX7_endOfDigits_18 rfl (by rfl) (by decide) rfl ?_
      refine z_goto (tgt := 2) S dX7_endOfDigits_21 (by decide) ?_
      refine z_lv (ks := [0, 1, 2]) rfl ?_
      exact hc _ (Option.some.inj he).symm
set_option maxRecDepth 100000 in
set_option maxHeartbeats 4000000 in
theorem K_X7_endOfDigits {X : Cx} {l : Launch} {M : Mm} {a0 : Nat} {a1 : Int32} {a2 : Int32} {r : Int32} (h_a0 : OK 0 a0 30) (he : f_X7_endOfDigits M a0 a1 a2 = some r) : KI X 0 l yX7_endOfDigits (wz yX7_endOfDigits cX7_endOfDigits 4 (some .int)) rm_X7_endOfDigits [.ref (X.2.2 a0), .int a1, .int a2] M r M := by
  intro sz
  refine K_of (Qc := (fun sz => QI X 0 r M sz)) (own := RX7) (lv0 := [(0, .ref (X.2.2 a0)), (1, .int a1), (2, .int a2)]) (by decide +kernel) rfl (Nat.le_of_ble_eq_true rfl) rfl (fun p e s m args below meth c S => ?_) sz
  · unfold f_X7_endOfDigits at he
    refine z_iload_n S dX7_endOfDigits_0 rfl 1 rfl ?_
    refine z_istore_n (lv' := [(0, .ref (X.2.2 a0)), (2, .int a2), (3, .int a1)]) S [1, 3, 0] dX7_endOfDigits_1 rfl (by decide) rfl ?_
    obtain ⟨e_1, hl, he⟩ := bnd he
    have hX : Z X 0 p l e rm_X7_endOfDigits s m args below meth c 0 0 (MQ below (QI X 0 r M s.heap.size) args s 0 0 (AA X 0 s.heap.size)) 4 M 24 [(3, .int e_1)] [] := by
      refine z_iload_n S dX7_endOfDigits_24 rfl 0 rfl ?_
      exact z_iret S (⟨Option.some.inj he, rfl⟩) dX7_endOfDigits_25
    have hZ9 := loopZ (f := (fun a_1 => f_X7_endOfDigits_L2 M a0 a2 a_1)) (Zh := (fun a_1 => Z X 0 p l e rm_X7_endOfDigits s m args below meth c 0 0 (MQ below (QI X 0 r M s.heap.size) args s 0 0 (AA X 0 s.heap.size)) 4 M 2 [(0, .ref (X.2.2 a0)), (2, .int a2), (3, .int a_1)] [])) (fun a_1 x hb hc hr => p_X7_endOfDigits_L2 S h_a0 hb hc (fun b hxe => by rw [hr b hxe]; exact hX)) FU a1 hl
    exact hZ9
set_option maxRecDepth 100000 in
set_option maxHeartbeats 4000000 in
theorem p_X7_numberOf_L16 {X : Cx} {p : Program} {l : Launch} {e : Env} {s : State} {m : MethodId} {args : Array Value} {below : List Frame} {meth : Method} {c : Code} (S : SB X 0 p s m args meth c cX7_numberOf 5 (some .int) RX7) {M : Mm} {r : Int32} {v0 : Nat} {v2 : Int32} {v3 : Int32} {v4 : Int32} {x : (Int32 × Int32) ⊕ Int32} (h_v0 : OK 0 v0 30) (he : f_X7_numberOf_L16 M v0 v2 v3 v4 = some x) (hc : ∀ b, x = .inl b → Z X 0 p l e rm_X7_numberOf s m args below meth c 0 0 (MQ below (QI X 0 r M s.heap.size) args s 0 0 (AA X 0 s.heap.size)) 5 M 16 [(0, .ref (X.2.2 v0)), (2, .int v2), (3, .int b.1), (4, .int b.2)] []) (hx : ∀ b, x = .inr b → Z X 0 p l e rm_X7_numberOf s m args below meth c 0 0 (MQ below (QI X 0 r M s.heap.size) args s 0 0 (AA X 0 s.heap.size)) 5 M 43 [(3, .int b)] []) : Z X 0 p l e rm_X7_numberOf s m args below meth c 0 0 (MQ below (QI X 0 r M s.heap.size) args s 0 0 (AA X 0 s.heap.size)) 5 M 16 [(0, .ref (X.2.2 v0)), (2, .int v2), (3, .int v3), (4, .int v4)] [] := by
  unfold f_X7_numberOf_L16 at he
  refine z_iload S dX7_numberOf_16 3 rfl ?_
  refine z_iload_n S dX7_numberOf_18 rfl 1 rfl ?_
  refine z_icmp_ge (tgt := 43) S he dX7_numberOf_19 (by decide) (fun he => ?_) (fun he => ?_)
  · refine z_lv (ks := [2]) rfl ?_
    exact hx _ (Option.some.inj he).symm
  · refine z_iload_n S dX7_numberOf_22 rfl 2 rfl ?_
    refine z_bipush (v := 10) S dX7_numberOf_23 (by decide) ?_
    refine z_imul S dX7_numberOf_25 ?_
    refine z_aload_n S dX7_numberOf_26 rfl 0 rfl ?_
    refine z_iload S dX7_numberOf_27 3 rfl ?_
    refine z_cNI (As := [.ref (X.2.2 v0), .int v4]) S cn_RX7_38 (Kt_X9_at h_v0 rfl) ⟨rfl, rfl⟩ ⟨Nat.le_of_ble_eq_true rfl, Nat.le_of_ble_eq_true rfl⟩ ⟨Nat.le_refl _, Nat.le_refl _⟩ rfl rfl (Nat.le_of_ble_eq_true rfl) dX7_numberOf_29 ?_
    refine z_iadd S dX7_numberOf_32 ?_
    refine z_bipush (v := 48) S dX7_numberOf_33 (by decide) ?_
    refine z_isub S dX7_numberOf_35 ?_
    obtain ⟨x1, ex1, he⟩ := bnd he
    rw [Option.some.inj ex1]
    refine z_istore_n (lv' := [(0, .ref (X.2.2 v0)), (2, .int v2), (3, .int x1), (4, .int v4)]) S [1, 2, 0, 3] dX7_numberOf_36 rfl (by decide) rfl ?_
    refine z_iinc (v := (v4 + 1)) (lv' := [(0, .ref (X.2.2 v0)), (2, .int v2), (3, .int x1), (4, .int (v4 + 1))]) S [1, 2, 3, 0] 3 dX7_numberOf_37 rfl (by rfl) (by decide) rfl ?_
    refine z_goto (tgt := 16) S dX7_numberOf_40 (by decide) ?_
    refine z_lv (ks := [0, 1, 2, 3]) rfl ?_
    exact hc _ (Option.some.inj he).symm
set_option maxRecDepth 100000 in
set_option maxHeartbeats 4000000 in
theorem K_X7_numberOf {X : Cx} {l : Launch} {M : Mm} {a0 : Nat} {a1 : Int32} {a2 : Int32} {r : Int32} (h_a0 : OK 0 a0 30) (he : f_X7_numberOf M a0 a1 a2 = some r) : KI X 0 l yX7_numberOf (wz yX7_numberOf cX7_numberOf 5 (some .int)) rm_X7_numberOf [.ref (X.2.2 a0), .int a1, .int a2] M r M := by
  intro sz
  refine K_of (Qc := (fun sz => QI X 0 r M sz)) (own := RX7) (lv0 := [(0, .ref (X.2.2 a0)), (1, .int a1), (2, .int a2)]) (by decide +kernel) rfl (Nat.le_of_ble_eq_true rfl) rfl (fun p e s m args below meth c S => ?_) sz
  · unfold f_X7_numberOf at he
    refine z_iload_n S dX7_numberOf_0 rfl 2 rfl ?_
    refine z_iload_n S dX7_numberOf_1 rfl 1 rfl ?_
    refine z_isub S dX7_numberOf_2 ?_
    refine z_iconst (v := 3) S dX7_numberOf_3 (by decide) ?_
    refine z_icmp_le (tgt := 11) S he dX7_numberOf_4 (by decide) (fun he => ?_) (fun he => ?_)
    · refine z_iconst (v := 0) S dX7_numberOf_11 (by decide) ?_
      refine z_istore_n (lv' := [(0, .ref (X.2.2 a0)), (1, .int a1), (2, .int a2), (3, .int 0)]) S [1, 2, 3, 0] dX7_numberOf_12 rfl (by decide) rfl ?_
      refine z_iload_n S dX7_numberOf_13 rfl 1 rfl ?_
      refine z_istore (lv' := [(0, .ref (X.2.2 a0)), (2, .int a2), (3, .int 0), (4, .int a1)]) S [1, 3, 4, 0] dX7_numberOf_14 (by decide) rfl ?_
      obtain ⟨e_2, hl, he⟩ := bnd he
      have hX : Z X 0 p l e rm_X7_numberOf s m args below meth c 0 0 (MQ below (QI X 0 r M s.heap.size) args s 0 0 (AA X 0 s.heap.size)) 5 M 43 [(3, .int e_2)] [] := by
        refine z_iload_n S dX7_numberOf_43 rfl 0 rfl ?_
        exact z_iret S (⟨Option.some.inj he, rfl⟩) dX7_numberOf_44
      have hZ9 := loopZ (f := (fun a_2 => f_X7_numberOf_L16 M a0 a2 a_2.1 a_2.2)) (Zh := (fun a_2 => Z X 0 p l e rm_X7_numberOf s m args below meth c 0 0 (MQ below (QI X 0 r M s.heap.size) args s 0 0 (AA X 0 s.heap.size)) 5 M 16 [(0, .ref (X.2.2 a0)), (2, .int a2), (3, .int a_2.1), (4, .int a_2.2)] [])) (fun a_2 x hb hc hr => p_X7_numberOf_L16 S h_a0 hb hc (fun b hxe => by rw [hr b hxe]; exact hX)) FU (0, a1) hl
      exact hZ9
    · refine z_sipush (v := 1000) S dX7_numberOf_7 (by decide) ?_
      exact z_iret S (⟨Option.some.inj he, rfl⟩) dX7_numberOf_10
set_option maxRecDepth 100000 in
set_option maxHeartbeats 4000000 in
theorem p_X7_open_J7_116 {X : Cx} {p : Program} {l : Launch} {e : Env} {s : State} {m : MethodId} {args : Array Value} {below : List Frame} {meth : Method} {c : Code} (S : SB X 0 p s m args meth c cX7_open 6 none RX7) {M : Mm} {N : Mm} {v0 : Nat} {v1 : Nat} {v2 : Int32} {v3 : Int32} {v5 : Int32} {x : (Mm × Int32) ⊕ Mm} (h_v0 : OK 0 v0 7) (h_v1 : OK 0 v1 30) (he : f_X7_open_J7_116 M v0 v1 v2 v3 v5 = some x) (hc : ∀ b, x = .inl b → Z X 0 p l e rm_X7_open s m args below meth c 0 0 (MQ below (QV X 0 N s.heap.size) args s 0 0 (AA X 0 s.heap.size)) 6 b.1 7 [(0, .ref (X.2.2 v0)), (1, .ref (X.2.2 v1)), (2, .int v2), (3, .int b.2)] []) (hx : ∀ b, x = .inr b → Z X 0 p l e rm_X7_open s m args below meth c 0 0 (MQ below (QV X 0 N s.heap.size) args s 0 0 (AA X 0 s.heap.size)) 6 b 128 [(0, .ref (X.2.2 v0)), (2, .int v2)] []) : Z X 0 p l e rm_X7_open s m args below meth c 0 0 (MQ below (QV X 0 N s.heap.size) args s 0 0 (AA X 0 s.heap.size)) 6 M 116 [(0, .ref (X.2.2 v0)), (1, .ref (X.2.2 v1)), (2, .int v2), (3, .int v3), (5, .int v5)] [] := by
  unfold f_X7_open_J7_116 at he
  refine z_iload S dX7_open_116 4 rfl ?_
  refine z_iload_n S dX7_open_118 rfl 3 rfl ?_
  refine z_iconst (v := 1) S dX7_open_119 (by decide) ?_
  refine z_iadd S dX7_open_120 ?_
  refine z_mmax S cm_RX7_73 (Nat.le_of_ble_eq_true rfl) (Nat.le_of_ble_eq_true rfl) ⟨Nat.le_refl _, Nat.le_refl _⟩ dX7_open_121 ?_
  refine z_istore_n (lv' := [(0, .ref (X.2.2 v0)), (1, .ref (X.2.2 v1)), (2, .int v2), (3, .int (mx v5 (v3 + 1)))]) S [1, 2, 3, 0] dX7_open_124 rfl (by decide) rfl ?_
  refine z_goto (tgt := 7) S dX7_open_125 (by decide) ?_
  refine z_lv (ks := [0, 1, 2, 3]) rfl ?_
  exact hc _ (Option.some.inj he).symm
set_option maxRecDepth 100000 in
set_option maxHeartbeats 4000000 in
theorem p_X7_open_L7 {X : Cx} {p : Program} {l : Launch} {e : Env} {s : State} {m : MethodId} {args : Array Value} {below : List Frame} {meth : Method} {c : Code} (S : SB X 0 p s m args meth c cX7_open 6 none RX7) {M : Mm} {N : Mm} {v0 : Nat} {v1 : Nat} {v2 : Int32} {v3 : Int32} {x : (Mm × Int32) ⊕ Mm} (h_v0 : OK 0 v0 7) (h_v1 : OK 0 v1 30) (he : f_X7_open_L7 M v0 v1 v2 v3 = some x) (hc : ∀ b, x = .inl b → Z X 0 p l e rm_X7_open s m args below meth c 0 0 (MQ below (QV X 0 N s.heap.size) args s 0 0 (AA X 0 s.heap.size)) 6 b.1 7 [(0, .ref (X.2.2 v0)), (1, .ref (X.2.2 v1)), (2, .int v2), (3, .int b.2)] []) (hx : ∀ b, x = .inr b → Z X 0 p l e rm_X7_open s m args below meth c 0 0 (MQ below (QV X 0 N s.heap.size) args s 0 0 (AA X 0 s.heap.size)) 6 b 128 [(0, .ref (X.2.2 v0)), (2, .int v2)] []) : Z X 0 p l e rm_X7_open s m args below meth c 0 0 (MQ below (QV X 0 N s.heap.size) args s 0 0 (AA X 0 s.heap.size)) 6 M 7 [(0, .ref (X.2.2 v0)), (1, .ref (X.2.2 v1)), (2, .int v2), (3, .int v3)] [] := by
  unfold f_X7_open_L7 at he
  refine z_iload_n S dX7_open_7 rfl 3 rfl ?_
  refine z_iload_n S dX7_open_8 rfl 2 rfl ?_
  refine z_icmp_ge (tgt := 128) S he dX7_open_9 (by decide) (fun he => ?_) (fun he => ?_)
  · refine z_lv (ks := [0, 2]) rfl ?_
    exact hx _ (Option.some.inj he).symm
  · refine z_aload_n S dX7_open_12 rfl 1 rfl ?_
    refine z_iload_n S dX7_open_13 rfl 3 rfl ?_
    refine z_cNI (As := [.ref (X.2.2 v1), .int v3]) S cn_RX7_38 (Kt_X9_at h_v1 rfl) ⟨rfl, rfl⟩ ⟨Nat.le_of_ble_eq_true rfl, Nat.le_of_ble_eq_true rfl⟩ ⟨Nat.le_refl _, Nat.le_refl _⟩ rfl rfl (Nat.le_of_ble_eq_true rfl) dX7_open_14 ?_
    refine z_istore (lv' := [(0, .ref (X.2.2 v0)), (1, .ref (X.2.2 v1)), (2, .int v2), (3, .int v3), (4, .int (t_X9_at M v1 v3))]) S [1, 2, 3, 4, 0] dX7_open_17 (by decide) rfl ?_
    refine z_iload_n S dX7_open_19 rfl 3 rfl ?_
    refine z_iconst (v := 1) S dX7_open_20 (by decide) ?_
    refine z_iadd S dX7_open_21 ?_
    refine z_istore (lv' := [(0, .ref (X.2.2 v0)), (1, .ref (X.2.2 v1)), (2, .int v2), (3, .int v3), (4, .int (t_X9_at M v1 v3)), (5, .int (v3 + 1))]) S [1, 2, 3, 4, 5, 0] dX7_open_22 (by decide) rfl ?_
    refine z_iload S dX7_open_24 4 rfl ?_
    refine z_cSI (As := [.int (t_X9_at M v1 v3)]) S cs_RX7_42 (K_X7_isLetter  rfl) ⟨rfl, rfl⟩ ⟨Nat.le_of_ble_eq_true rfl, Nat.le_of_ble_eq_true rfl⟩ ⟨Nat.le_refl _, Nat.le_refl _⟩ rfl rfl (Nat.le_of_ble_eq_true rfl) dX7_open_26 ?_
    refine z_ifb_eq (tgt := 62) S he dX7_open_29 (by decide) (fun he => ?_) (fun he => ?_)
    · refine z_iload S dX7_open_62 4 rfl ?_
      refine z_cSI (As := [.int (t_X9_at M v1 v3)]) S cs_RX7_61 (K_X7_isDigit  rfl) ⟨rfl, rfl⟩ ⟨Nat.le_of_ble_eq_true rfl, Nat.le_of_ble_eq_true rfl⟩ ⟨Nat.le_refl _, Nat.le_refl _⟩ rfl rfl (Nat.le_of_ble_eq_true rfl) dX7_open_64 ?_
      refine z_ifb_eq (tgt := 96) S he dX7_open_67 (by decide) (fun he => ?_) (fun he => ?_)
      · refine z_iload S dX7_open_96 4 rfl ?_
        refine z_bipush (v := 32) S dX7_open_98 (by decide) ?_
        refine z_icmp_eq (tgt := 116) S he dX7_open_100 (by decide) (fun he => ?_) (fun he => ?_)
        · refine z_lv (ks := [0, 1, 2, 3, 5]) rfl ?_
          exact p_X7_open_J7_116 S h_v0 h_v1 he hc hx
        · refine z_aload_n S dX7_open_103 rfl 0 rfl ?_
          refine z_aload_n S dX7_open_104 rfl 1 rfl ?_
          refine z_iload_n S dX7_open_105 rfl 3 rfl ?_
          refine z_iload S dX7_open_106 5 rfl ?_
          obtain ⟨r2, h9, he⟩ := bnd he
          obtain ⟨hW_r2, he⟩ := grd he
          refine z_cSR (As := [.ref (X.2.2 v1), .int v3, .int (v3 + 1)]) S cs_RX7_50 (K_X7_spelled h_v1 h9) ⟨rfl, rfl⟩ ⟨Nat.le_of_ble_eq_true rfl, Nat.le_of_ble_eq_true rfl⟩ ⟨Nat.le_refl _, Nat.le_refl _⟩ rfl rfl (Nat.le_of_ble_eq_true rfl) dX7_open_108 ?_
          refine z_iload_n S dX7_open_111 rfl 3 rfl ?_
          refine z_iconst (v := (-1)) S dX7_open_112 (by decide) ?_
          obtain ⟨M3, h9, he⟩ := bnd he
          refine z_cVV (As := [.ref (X.2.2 r2), .int v3, .int (-1)]) S cv_RX7_57 (K_X7_add h_v0 hW_r2 h9) h_v0 (by decide) (q := (RX7, TX7, 9)) rfl rfl ⟨rfl, rfl⟩ ⟨Nat.le_of_ble_eq_true rfl, Nat.le_of_ble_eq_true rfl⟩ ⟨Nat.le_refl _, Nat.le_refl _⟩ rfl rfl (Nat.le_of_ble_eq_true rfl) dX7_open_113 ?_
          refine z_lv (ks := [0, 1, 2, 3, 5]) rfl ?_
          exact p_X7_open_J7_116 S h_v0 h_v1 he hc hx
      · refine z_aload_n S dX7_open_70 rfl 1 rfl ?_
        refine z_iload_n S dX7_open_71 rfl 3 rfl ?_
        refine z_iload_n S dX7_open_72 rfl 2 rfl ?_
        obtain ⟨r4, h9, he⟩ := bnd he
        refine z_cSI (As := [.ref (X.2.2 v1), .int v3, .int v2]) S cs_RX7_64 (K_X7_endOfDigits h_v1 h9) ⟨rfl, rfl⟩ ⟨Nat.le_of_ble_eq_true rfl, Nat.le_of_ble_eq_true rfl⟩ ⟨Nat.le_refl _, Nat.le_refl _⟩ rfl rfl (Nat.le_of_ble_eq_true rfl) dX7_open_73 ?_
        refine z_istore (lv' := [(0, .ref (X.2.2 v0)), (1, .ref (X.2.2 v1)), (2, .int v2), (3, .int v3), (5, .int r4)]) S [1, 2, 3, 4, 0] dX7_open_76 (by decide) rfl ?_
        refine z_aload_n S dX7_open_78 rfl 0 rfl ?_
        refine z_getW (i := 28) (j := 328) S (by decide) rfl rfl gw_RX7_67 dX7_open_79 ?_
        refine z_iload_n S dX7_open_82 rfl 3 rfl ?_
        refine z_aload_n S dX7_open_83 rfl 1 rfl ?_
        refine z_iload_n S dX7_open_84 rfl 3 rfl ?_
        refine z_iload S dX7_open_85 4 rfl ?_
        obtain ⟨r5, h9, he⟩ := bnd he
        refine z_cSI (As := [.ref (X.2.2 v1), .int v3, .int r4]) S cs_RX7_70 (K_X7_numberOf h_v1 h9) ⟨rfl, rfl⟩ ⟨Nat.le_of_ble_eq_true rfl, Nat.le_of_ble_eq_true rfl⟩ ⟨Nat.le_refl _, Nat.le_refl _⟩ rfl rfl (Nat.le_of_ble_eq_true rfl) dX7_open_87 ?_
        obtain ⟨M6, h9, he⟩ := bnd he
        refine z_cVV (As := [.ref (X.2.2 328), .int v3, .int r5]) S cv_RX7_57 (K_X7_add h_v0 (isW_add (i := 28) (by decide)) h9) h_v0 (by decide) (q := (RX7, TX7, 9)) rfl rfl ⟨rfl, rfl⟩ ⟨Nat.le_of_ble_eq_true rfl, Nat.le_of_ble_eq_true rfl⟩ ⟨Nat.le_refl _, Nat.le_refl _⟩ rfl rfl (Nat.le_of_ble_eq_true rfl) dX7_open_90 ?_
        refine z_goto (tgt := 116) S dX7_open_93 (by decide) ?_
        exact p_X7_open_J7_116 S h_v0 h_v1 he hc hx
    · refine z_aload_n S dX7_open_32 rfl 1 rfl ?_
      refine z_iload_n S dX7_open_33 rfl 3 rfl ?_
      refine z_iload_n S dX7_open_34 rfl 2 rfl ?_
      obtain ⟨r7, h9, he⟩ := bnd he
      refine z_cSI (As := [.ref (X.2.2 v1), .int v3, .int v2]) S cs_RX7_46 (K_X7_endOfLetters h_v1 h9) ⟨rfl, rfl⟩ ⟨Nat.le_of_ble_eq_true rfl, Nat.le_of_ble_eq_true rfl⟩ ⟨Nat.le_refl _, Nat.le_refl _⟩ rfl rfl (Nat.le_of_ble_eq_true rfl) dX7_open_35 ?_
      refine z_istore (lv' := [(0, .ref (X.2.2 v0)), (1, .ref (X.2.2 v1)), (2, .int v2), (3, .int v3), (5, .int r7)]) S [1, 2, 3, 4, 0] dX7_open_38 (by decide) rfl ?_
      refine z_aload_n S dX7_open_40 rfl 0 rfl ?_
      refine z_aload_n S dX7_open_41 rfl 1 rfl ?_
      refine z_iload_n S dX7_open_42 rfl 3 rfl ?_
      refine z_iload S dX7_open_43 4 rfl ?_
      obtain ⟨r8, h9, he⟩ := bnd he
      obtain ⟨hW_r8, he⟩ := grd he
      refine z_cSR (As := [.ref (X.2.2 v1), .int v3, .int r7]) S cs_RX7_50 (K_X7_spelled h_v1 h9) ⟨rfl, rfl⟩ ⟨Nat.le_of_ble_eq_true rfl, Nat.le_of_ble_eq_true rfl⟩ ⟨Nat.le_refl _, Nat.le_refl _⟩ rfl rfl (Nat.le_of_ble_eq_true rfl) dX7_open_45 ?_
      refine z_iload_n S dX7_open_48 rfl 3 rfl ?_
      refine z_aload_n S dX7_open_49 rfl 1 rfl ?_
      refine z_iload_n S dX7_open_50 rfl 3 rfl ?_
      refine z_iload S dX7_open_51 4 rfl ?_
      obtain ⟨r9, h9, he⟩ := bnd he
      refine z_cSI (As := [.ref (X.2.2 v1), .int v3, .int r7]) S cs_RX7_54 (K_X7_marksOf h_v1 h9) ⟨rfl, rfl⟩ ⟨Nat.le_of_ble_eq_true rfl, Nat.le_of_ble_eq_true rfl⟩ ⟨Nat.le_refl _, Nat.le_refl _⟩ rfl rfl (Nat.le_of_ble_eq_true rfl) dX7_open_53 ?_
      obtain ⟨M10, h9, he⟩ := bnd he
      refine z_cVV (As := [.ref (X.2.2 r8), .int v3, .int r9]) S cv_RX7_57 (K_X7_add h_v0 hW_r8 h9) h_v0 (by decide) (q := (RX7, TX7, 9)) rfl rfl ⟨rfl, rfl⟩ ⟨Nat.le_of_ble_eq_true rfl, Nat.le_of_ble_eq_true rfl⟩ ⟨Nat.le_refl _, Nat.le_refl _⟩ rfl rfl (Nat.le_of_ble_eq_true rfl) dX7_open_56 ?_
      refine z_goto (tgt := 116) S dX7_open_59 (by decide) ?_
      exact p_X7_open_J7_116 S h_v0 h_v1 he hc hx
set_option maxRecDepth 100000 in
set_option maxHeartbeats 4000000 in
theorem K_X7_open {X : Cx} {l : Launch} {M : Mm} {a0 : Nat} {a1 : Nat} {a2 : Int32} {N : Mm} (h_a0 : OK 0 a0 7) (h_a1 : OK 0 a1 30) (he : f_X7_open M a0 a1 a2 = some N) : KV X 0 l yX7_open (wz yX7_open cX7_open 6 none) rm_X7_open [.ref (X.2.2 a0), .ref (X.2.2 a1), .int a2] M N := by
  intro sz
  refine K_of (Qc := (fun sz => QV X 0 N sz)) (own := RX7) (lv0 := [(0, .ref (X.2.2 a0)), (1, .ref (X.2.2 a1)), (2, .int a2)]) (by decide +kernel) rfl (Nat.le_of_ble_eq_true rfl) rfl (fun p e s m args below meth c S => ?_) sz
  · unfold f_X7_open at he
    refine z_aload_n S dX7_open_0 rfl 0 rfl ?_
    refine z_iconst (v := 0) S dX7_open_1 (by decide) ?_
    refine z_putIb S fo_RX7_35p rfl h_a0 rfl rfl he dX7_open_2 (fun M1 he => ?_)
    refine z_iconst (v := 0) S dX7_open_5 (by decide) ?_
    refine z_istore_n (lv' := [(0, .ref (X.2.2 a0)), (1, .ref (X.2.2 a1)), (2, .int a2), (3, .int 0)]) S [1, 2, 3, 0] dX7_open_6 rfl (by decide) rfl ?_
    obtain ⟨e_11, hl, he⟩ := bnd he
    have hX : Z X 0 p l e rm_X7_open s m args below meth c 0 0 (MQ below (QV X 0 N s.heap.size) args s 0 0 (AA X 0 s.heap.size)) 6 e_11 128 [(0, .ref (X.2.2 a0)), (2, .int a2)] [] := by
      refine z_aload_n S dX7_open_128 rfl 0 rfl ?_
      refine z_getW (i := 30) (j := 330) S (by decide) rfl rfl gw_RX7_24 dX7_open_129 ?_
      refine z_iload_n S dX7_open_132 rfl 1 rfl ?_
      refine z_iconst (v := (-1)) S dX7_open_133 (by decide) ?_
      obtain ⟨M12, h9, he⟩ := bnd he
      refine z_cVV (As := [.ref (X.2.2 330), .int a2, .int (-1)]) S cv_RX7_57 (K_X7_add h_a0 (isW_add (i := 30) (by decide)) h9) h_a0 (by decide) (q := (RX7, TX7, 9)) rfl rfl ⟨rfl, rfl⟩ ⟨Nat.le_of_ble_eq_true rfl, Nat.le_of_ble_eq_true rfl⟩ ⟨Nat.le_refl _, Nat.le_refl _⟩ rfl rfl (Nat.le_of_ble_eq_true rfl) dX7_open_134 ?_
      refine z_aload_n S dX7_open_137 rfl 0 rfl ?_
      refine z_iconst (v := (-1)) S dX7_open_138 (by decide) ?_
      refine z_putIb S fo_RX7_31p rfl h_a0 rfl rfl he dX7_open_139 (fun M13 he => ?_)
      refine z_aload_n S dX7_open_142 rfl 0 rfl ?_
      refine z_iconst (v := (-1)) S dX7_open_143 (by decide) ?_
      refine z_putIb S fo_RX7_79p rfl h_a0 rfl rfl he dX7_open_144 (fun M14 he => ?_)
      refine z_aload_n S dX7_open_147 rfl 0 rfl ?_
      obtain ⟨M15, h9, he⟩ := bnd he
      refine z_cVV (As := []) S cv_RX7_82 (K_X7_next h_a0 h9) h_a0 (by decide) (q := (RX7, TX7, 9)) rfl rfl ⟨rfl, rfl⟩ ⟨Nat.le_of_ble_eq_true rfl, Nat.le_of_ble_eq_true rfl⟩ ⟨Nat.le_refl _, Nat.le_refl _⟩ rfl rfl (Nat.le_of_ble_eq_true rfl) dX7_open_148 ?_
      exact z_vret S (Option.some.inj he) dX7_open_151
    have hZ9 := loopZ (f := (fun a_11 => f_X7_open_L7 a_11.1 a0 a1 a2 a_11.2)) (Zh := (fun a_11 => Z X 0 p l e rm_X7_open s m args below meth c 0 0 (MQ below (QV X 0 N s.heap.size) args s 0 0 (AA X 0 s.heap.size)) 6 a_11.1 7 [(0, .ref (X.2.2 a0)), (1, .ref (X.2.2 a1)), (2, .int a2), (3, .int a_11.2)] [])) (fun a_11 x hb hc hr => p_X7_open_L7 S h_a0 h_a1 hb hc (fun b hxe => by rw [hr b hxe]; exact hX)) FU (M1, 0) hl
    exact hZ9
set_option maxRecDepth 100000 in
set_option maxHeartbeats 4000000 in
theorem K_X4_addThing {X : Cx} {l : Launch} {M : Mm} {a0 : Nat} {a1 : Int32} {a2 : Int32} {a3 : Int32} {N : Mm} (h_a0 : OK 0 a0 4) (he : f_X4_addThing M a0 a1 a2 a3 = some N) : KV X 0 l yX4_addThing (wz yX4_addThing cX4_addThing 5 none) rm_X4_addThing [.ref (X.2.2 a0), .int a1, .int a2, .int a3] M N := by
  intro sz
  refine K_of (Qc := (fun sz => QV X 0 N sz)) (own := RX4) (lv0 := [(0, .ref (X.2.2 a0)), (1, .int a1), (2, .int a2), (3, .int a3)]) (by decide +kernel) rfl (Nat.le_of_ble_eq_true rfl) rfl (fun p e s m args below meth c S => ?_) sz
  · unfold f_X4_addThing at he
    refine z_aload_n S dX4_addThing_0 rfl 0 rfl ?_
    refine z_getI S fo_RX4_34 rfl h_a0 dX4_addThing_1 ?_
    refine z_istore (lv' := [(0, .ref (X.2.2 a0)), (1, .int a1), (2, .int a2), (3, .int a3), (4, .int (gI M a0 3))]) S [1, 2, 3, 4, 0] dX4_addThing_4 (by decide) rfl ?_
    refine z_aload_n S dX4_addThing_6 rfl 0 rfl ?_
    refine z_dup S rfl dX4_addThing_7 ?_
    refine z_getI S fo_RX4_34 rfl h_a0 dX4_addThing_8 ?_
    refine z_iconst (v := 1) S dX4_addThing_11 (by decide) ?_
    refine z_iadd S dX4_addThing_12 ?_
    refine z_putIb S fo_RX4_34p rfl h_a0 rfl rfl he dX4_addThing_13 (fun M1 he => ?_)
    refine z_aload_n S dX4_addThing_16 rfl 0 rfl ?_
    refine z_iload S dX4_addThing_17 4 rfl ?_
    refine z_iconst (v := 0) S dX4_addThing_19 (by decide) ?_
    refine z_iload_n S dX4_addThing_20 rfl 1 rfl ?_
    obtain ⟨M2, h9, he⟩ := bnd he
    refine z_cVV (As := [.int (gI M a0 3), .int 0, .int a1]) S cv_RX4_61 (K_X4_setThing h_a0 (Option.some.inj h9)) h_a0 (by decide) (q := (RX4, TX4, 10)) rfl rfl ⟨rfl, rfl⟩ ⟨Nat.le_of_ble_eq_true rfl, Nat.le_of_ble_eq_true rfl⟩ ⟨Nat.le_refl _, Nat.le_refl _⟩ rfl rfl (Nat.le_of_ble_eq_true rfl) dX4_addThing_21 ?_
    refine z_aload_n S dX4_addThing_24 rfl 0 rfl ?_
    refine z_iload S dX4_addThing_25 4 rfl ?_
    refine z_iconst (v := 1) S dX4_addThing_27 (by decide) ?_
    refine z_iload_n S dX4_addThing_28 rfl 2 rfl ?_
    obtain ⟨M3, h9, he⟩ := bnd he
    refine z_cVV (As := [.int (gI M a0 3), .int 1, .int a2]) S cv_RX4_61 (K_X4_setThing h_a0 (Option.some.inj h9)) h_a0 (by decide) (q := (RX4, TX4, 10)) rfl rfl ⟨rfl, rfl⟩ ⟨Nat.le_of_ble_eq_true rfl, Nat.le_of_ble_eq_true rfl⟩ ⟨Nat.le_refl _, Nat.le_refl _⟩ rfl rfl (Nat.le_of_ble_eq_true rfl) dX4_addThing_29 ?_
    refine z_aload_n S dX4_addThing_32 rfl 0 rfl ?_
    refine z_iload S dX4_addThing_33 4 rfl ?_
    refine z_iconst (v := 2) S dX4_addThing_35 (by decide) ?_
    refine z_iload_n S dX4_addThing_36 rfl 3 rfl ?_
    obtain ⟨M4, h9, he⟩ := bnd he
    refine z_cVV (As := [.int (gI M a0 3), .int 2, .int a3]) S cv_RX4_61 (K_X4_setThing h_a0 (Option.some.inj h9)) h_a0 (by decide) (q := (RX4, TX4, 10)) rfl rfl ⟨rfl, rfl⟩ ⟨Nat.le_of_ble_eq_true rfl, Nat.le_of_ble_eq_true rfl⟩ ⟨Nat.le_refl _, Nat.le_refl _⟩ rfl rfl (Nat.le_of_ble_eq_true rfl) dX4_addThing_37 ?_
    refine z_aload_n S dX4_addThing_40 rfl 0 rfl ?_
    refine z_iload S dX4_addThing_41 4 rfl ?_
    refine z_iconst (v := 3) S dX4_addThing_43 (by decide) ?_
    refine z_iconst (v := 1) S dX4_addThing_44 (by decide) ?_
    obtain ⟨M5, h9, he⟩ := bnd he
    refine z_cVV (As := [.int (gI M a0 3), .int 3, .int 1]) S cv_RX4_61 (K_X4_setThing h_a0 (Option.some.inj h9)) h_a0 (by decide) (q := (RX4, TX4, 10)) rfl rfl ⟨rfl, rfl⟩ ⟨Nat.le_of_ble_eq_true rfl, Nat.le_of_ble_eq_true rfl⟩ ⟨Nat.le_refl _, Nat.le_refl _⟩ rfl rfl (Nat.le_of_ble_eq_true rfl) dX4_addThing_45 ?_
    refine z_aload_n S dX4_addThing_48 rfl 0 rfl ?_
    refine z_iload S dX4_addThing_49 4 rfl ?_
    refine z_iconst (v := 4) S dX4_addThing_51 (by decide) ?_
    refine z_iconst (v := 0) S dX4_addThing_52 (by decide) ?_
    obtain ⟨M6, h9, he⟩ := bnd he
    refine z_cVV (As := [.int (gI M a0 3), .int 4, .int 0]) S cv_RX4_61 (K_X4_setThing h_a0 (Option.some.inj h9)) h_a0 (by decide) (q := (RX4, TX4, 10)) rfl rfl ⟨rfl, rfl⟩ ⟨Nat.le_of_ble_eq_true rfl, Nat.le_of_ble_eq_true rfl⟩ ⟨Nat.le_refl _, Nat.le_refl _⟩ rfl rfl (Nat.le_of_ble_eq_true rfl) dX4_addThing_53 ?_
    exact z_vret S (Option.some.inj he) dX4_addThing_56
set_option maxRecDepth 100000 in
set_option maxHeartbeats 4000000 in
theorem K_X1_readThing {X : Cx} {l : Launch} {M : Mm} {a1 : Nat} {r : Bool} {N : Mm} (h_a1 : OK 0 a1 4) (he : f_X1_readThing M a1 = some (r, N)) : KI X 0 l yX1_readThing (wz yX1_readThing cX1_readThing 4 (some .boolean)) rm_X1_readThing [.ref (X.2.2 97), .ref (X.2.2 a1)] M (bI r) N := by
  intro sz
  refine K_of (Qc := (fun sz => QI X 0 (bI r) N sz)) (own := RX1) (lv0 := [(0, .ref (X.2.2 97)), (1, .ref (X.2.2 a1))]) (by decide +kernel) rfl (Nat.le_of_ble_eq_true rfl) rfl (fun p e s m args below meth c S => ?_) sz
  · unfold f_X1_readThing at he
    refine z_aload_n S dX1_readThing_0 rfl 0 rfl ?_
    refine z_getF (j := 98) S fo_RX1_12 1 rfl rfl ok_97 dX1_readThing_1 ?_
    obtain ⟨M1, h9, he⟩ := bnd he
    refine z_cVV (As := []) S cv_RX1_79 (K_X7_next ok_98 h9) ok_98 (by decide) (q := (RX7, TX7, 9)) rfl rfl ⟨rfl, rfl⟩ ⟨Nat.le_of_ble_eq_true rfl, Nat.le_of_ble_eq_true rfl⟩ ⟨Nat.le_refl _, Nat.le_refl _⟩ rfl rfl (Nat.le_of_ble_eq_true rfl) dX1_readThing_4 ?_
    refine z_aload_n S dX1_readThing_7 rfl 0 rfl ?_
    refine z_aload_n S dX1_readThing_8 rfl 1 rfl ?_
    obtain ⟨⟨r2, M3⟩, h9, he⟩ := bnd he
    dsimp only at he
    refine z_cVI (As := [.ref (X.2.2 a1)]) S cv_RX1_82 (K_X1_readCell h_a1 h9) ok_97 (by decide) (q := (RX1, TX1, 2)) rfl rfl ⟨rfl, rfl⟩ ⟨Nat.le_of_ble_eq_true rfl, Nat.le_of_ble_eq_true rfl⟩ ⟨Nat.le_refl _, Nat.le_refl _⟩ rfl rfl (Nat.le_of_ble_eq_true rfl) dX1_readThing_9 ?_
    refine z_ifb_ne (tgt := 17) S he dX1_readThing_12 (by decide) (fun he => ?_) (fun he => ?_)
    · refine z_aload_n S dX1_readThing_17 rfl 0 rfl ?_
      refine z_getI S fo_RX1_85 rfl ok_97 dX1_readThing_18 ?_
      refine z_istore_n (lv' := [(0, .ref (X.2.2 97)), (1, .ref (X.2.2 a1)), (2, .int (gI M3 97 1))]) S [1, 2, 0] dX1_readThing_21 rfl (by decide) rfl ?_
      refine z_aload_n S dX1_readThing_22 rfl 0 rfl ?_
      refine z_getW (i := 2) (j := 302) S (by decide) rfl rfl gw_RX1_88 dX1_readThing_23 ?_
      refine z_iconst (v := 0) S dX1_readThing_26 (by decide) ?_
      refine z_bipush (v := 99) S dX1_readThing_27 (by decide) ?_
      obtain ⟨⟨r4, M5⟩, h9, he⟩ := bnd he
      dsimp only at he
      refine z_cVI (As := [.ref (X.2.2 302), .int 0, .int 99]) S cv_RX1_91 (K_X1_readNamed (isW_add (i := 2) (by decide)) h9) ok_97 (by decide) (q := (RX1, TX1, 2)) rfl rfl ⟨rfl, rfl⟩ ⟨Nat.le_of_ble_eq_true rfl, Nat.le_of_ble_eq_true rfl⟩ ⟨Nat.le_refl _, Nat.le_refl _⟩ rfl rfl (Nat.le_of_ble_eq_true rfl) dX1_readThing_29 ?_
      refine z_ifb_ne (tgt := 37) S he dX1_readThing_32 (by decide) (fun he => ?_) (fun he => ?_)
      · refine z_aload_n S dX1_readThing_37 rfl 0 rfl ?_
        refine z_getI S fo_RX1_85 rfl ok_97 dX1_readThing_38 ?_
        refine z_istore_n (lv' := [(0, .ref (X.2.2 97)), (1, .ref (X.2.2 a1)), (2, .int (gI M3 97 1)), (3, .int (gI M5 97 1))]) S [1, 2, 3, 0] dX1_readThing_41 rfl (by decide) rfl ?_
        refine z_aload_n S dX1_readThing_42 rfl 0 rfl ?_
        refine z_getW (i := 3) (j := 303) S (by decide) rfl rfl gw_RX1_95 dX1_readThing_43 ?_
        refine z_iconst (v := 1) S dX1_readThing_46 (by decide) ?_
        refine z_iconst (v := 3) S dX1_readThing_47 (by decide) ?_
        obtain ⟨⟨r6, M7⟩, h9, he⟩ := bnd he
        dsimp only at he
        refine z_cVI (As := [.ref (X.2.2 303), .int 1, .int 3]) S cv_RX1_91 (K_X1_readNamed (isW_add (i := 3) (by decide)) h9) ok_97 (by decide) (q := (RX1, TX1, 2)) rfl rfl ⟨rfl, rfl⟩ ⟨Nat.le_of_ble_eq_true rfl, Nat.le_of_ble_eq_true rfl⟩ ⟨Nat.le_refl _, Nat.le_refl _⟩ rfl rfl (Nat.le_of_ble_eq_true rfl) dX1_readThing_48 ?_
        refine z_ifb_ne (tgt := 56) S he dX1_readThing_51 (by decide) (fun he => ?_) (fun he => ?_)
        · refine z_aload_n S dX1_readThing_56 rfl 1 rfl ?_
          refine z_iload_n S dX1_readThing_57 rfl 2 rfl ?_
          refine z_iload_n S dX1_readThing_58 rfl 3 rfl ?_
          refine z_aload_n S dX1_readThing_59 rfl 0 rfl ?_
          refine z_getI S fo_RX1_85 rfl ok_97 dX1_readThing_60 ?_
          obtain ⟨M8, h9, he⟩ := bnd he
          refine z_cVV (As := [.int (gI M3 97 1), .int (gI M5 97 1), .int (gI M7 97 1)]) S cv_RX1_98 (K_X4_addThing h_a1 h9) h_a1 (by decide) (q := (RX4, TX4, 10)) rfl rfl ⟨rfl, rfl⟩ ⟨Nat.le_of_ble_eq_true rfl, Nat.le_of_ble_eq_true rfl⟩ ⟨Nat.le_refl _, Nat.le_refl _⟩ rfl rfl (Nat.le_of_ble_eq_true rfl) dX1_readThing_63 ?_
          refine z_iconst (v := 1) S dX1_readThing_66 (by decide) ?_
          exact z_zret1 S (Prod.mk.inj (Option.some.inj he)) dX1_readThing_67
        · refine z_iconst (v := 0) S dX1_readThing_54 (by decide) ?_
          exact z_zret0 S (Prod.mk.inj (Option.some.inj he)) dX1_readThing_55
      · refine z_iconst (v := 0) S dX1_readThing_35 (by decide) ?_
        exact z_zret0 S (Prod.mk.inj (Option.some.inj he)) dX1_readThing_36
    · refine z_iconst (v := 0) S dX1_readThing_15 (by decide) ?_
      exact z_zret0 S (Prod.mk.inj (Option.some.inj he)) dX1_readThing_16
