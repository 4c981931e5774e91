set_option maxRecDepth 100000 in
set_option maxHeartbeats 4000000 in
theorem p_X3_readOpenings_J2_84 {X : Cx} {p : Program} {l : Launch} {e : Env} {s : State} {m : MethodId} {args : Array Value} {below : List Frame} {meth : Method} {c : Code} (S : SB X 0 p s m args meth c cX3_readOpenings 2 (some .boolean) RX3) {M : Mm} {N : Mm} {r : Bool} {v1 : Int32} {t0 : Int32} {x : (Mm × Int32) ⊕ ((Bool × Mm) ⊕ Mm)}  (he : f_X3_readOpenings_J2_84 M v1 t0 = some x) (hc : ∀ b, x = .inl b → Z X 0 p l e rm_X3_readOpenings s m args below meth c 0 0 (MQ below (QI X 0 (bI r) N s.heap.size) args s 0 0 (AA X 0 s.heap.size)) 2 b.1 2 [(0, .ref (X.2.2 102)), (1, .int b.2)] []) (hx : ∀ b, x = .inr (.inr b) → Z X 0 p l e rm_X3_readOpenings s m args below meth c 0 0 (MQ below (QI X 0 (bI r) N s.heap.size) args s 0 0 (AA X 0 s.heap.size)) 2 b 100 [] []) (hr : ∀ v, x = .inr (.inl v) → v = (r, N)) : Z X 0 p l e rm_X3_readOpenings s m args below meth c 0 0 (MQ below (QI X 0 (bI r) N s.heap.size) args s 0 0 (AA X 0 s.heap.size)) 2 M 84 [(0, .ref (X.2.2 102)), (1, .int v1)] [.int t0, .ref (X.2.2 102)] := by
  unfold f_X3_readOpenings_J2_84 at he
  obtain ⟨M4, h9, he⟩ := bnd he
  refine z_cVV (As := [.int t0]) S cv_RX3_104 (K_X3_leaveOpen  h9) ok_102 (by decide) (q := (RX3, TX3, 4)) rfl rfl ⟨rfl, rfl⟩ ⟨Nat.le_of_ble_eq_true rfl, Nat.le_of_ble_eq_true rfl⟩ ⟨Nat.le_refl _, Nat.le_refl _⟩ rfl rfl (Nat.le_of_ble_eq_true rfl) dX3_readOpenings_84 ?_
  refine z_aload_n S dX3_readOpenings_87 rfl 0 rfl ?_
  refine z_getF (j := 104) S fo_RX3_14 2 rfl rfl ok_102 dX3_readOpenings_88 ?_
  obtain ⟨M5, h9, he⟩ := bnd he
  refine z_cVV (As := []) S cv_RX3_67 (K_X7_next ok_104 h9) ok_104 (by decide) (q := (RX7, TX7, 9)) rfl rfl ⟨rfl, rfl⟩ ⟨Nat.le_of_ble_eq_true rfl, Nat.le_of_ble_eq_true rfl⟩ ⟨Nat.le_refl _, Nat.le_refl _⟩ rfl rfl (Nat.le_of_ble_eq_true rfl) dX3_readOpenings_91 ?_
  refine z_iinc (v := (v1 + 1)) (lv' := [(0, .ref (X.2.2 102)), (1, .int (v1 + 1))]) S [1, 0] 1 dX3_readOpenings_94 rfl (by rfl) (by decide) rfl ?_
  refine z_goto (tgt := 2) S dX3_readOpenings_97 (by decide) ?_
  refine z_lv (ks := [0, 1]) rfl ?_
  exact hc _ (Option.some.inj he).symm
set_option maxRecDepth 100000 in
set_option maxHeartbeats 4000000 in
theorem p_X3_readOpenings_J2_34 {X : Cx} {p : Program} {l : Launch} {e : Env} {s : State} {m : MethodId} {args : Array Value} {below : List Frame} {meth : Method} {c : Code} (S : SB X 0 p s m args meth c cX3_readOpenings 2 (some .boolean) RX3) {M : Mm} {N : Mm} {r : Bool} {v1 : Int32} {x : (Mm × Int32) ⊕ ((Bool × Mm) ⊕ Mm)}  (he : f_X3_readOpenings_J2_34 M v1 = some x) (hc : ∀ b, x = .inl b → Z X 0 p l e rm_X3_readOpenings s m args below meth c 0 0 (MQ below (QI X 0 (bI r) N s.heap.size) args s 0 0 (AA X 0 s.heap.size)) 2 b.1 2 [(0, .ref (X.2.2 102)), (1, .int b.2)] []) (hx : ∀ b, x = .inr (.inr b) → Z X 0 p l e rm_X3_readOpenings s m args below meth c 0 0 (MQ below (QI X 0 (bI r) N s.heap.size) args s 0 0 (AA X 0 s.heap.size)) 2 b 100 [] []) (hr : ∀ v, x = .inr (.inl v) → v = (r, N)) : Z X 0 p l e rm_X3_readOpenings s m args below meth c 0 0 (MQ below (QI X 0 (bI r) N s.heap.size) args s 0 0 (AA X 0 s.heap.size)) 2 M 34 [(0, .ref (X.2.2 102)), (1, .int v1)] [] := by
  unfold f_X3_readOpenings_J2_34 at he
  refine z_aload_n S dX3_readOpenings_34 rfl 0 rfl ?_
  refine z_getI S fo_RX3_84 rfl ok_102 dX3_readOpenings_35 ?_
  refine z_bipush (v := 6) S dX3_readOpenings_38 (by decide) ?_
  refine z_icmp_lt (tgt := 51) S he dX3_readOpenings_40 (by decide) (fun he => ?_) (fun he => ?_)
  · refine z_aload_n S dX3_readOpenings_51 rfl 0 rfl ?_
    refine z_dup S rfl dX3_readOpenings_52 ?_
    refine z_getI S fo_RX3_84 rfl ok_102 dX3_readOpenings_53 ?_
    refine z_iconst (v := 1) S dX3_readOpenings_56 (by decide) ?_
    refine z_iadd S dX3_readOpenings_57 ?_
    refine z_putIb S fo_RX3_84p rfl ok_102 rfl rfl he dX3_readOpenings_58 (fun M2 he => ?_)
    refine z_aload_n S dX3_readOpenings_61 rfl 0 rfl ?_
    refine z_aload_n S dX3_readOpenings_62 rfl 0 rfl ?_
    refine z_getF (j := 104) S fo_RX3_14 2 rfl rfl ok_102 dX3_readOpenings_63 ?_
    refine z_getWd S fo_RX3_30 rfl ok_104 he dX3_readOpenings_66 (fun q3 hq3 he => ?_)
    refine z_getW (i := 13) (j := 313) S (by decide) rfl rfl gw_RX3_111 dX3_readOpenings_69 ?_
    refine z_acmp_ne (tgt := 81) S hq3 (isW_add (i := 13) (by decide)) he dX3_readOpenings_72 (by decide) (fun he => ?_) (fun he => ?_)
    · refine z_sipush (v := 1026) S dX3_readOpenings_81 (by decide) ?_
      exact p_X3_readOpenings_J2_84 S  he hc hx hr
    · refine z_sipush (v := 1023) S dX3_readOpenings_75 (by decide) ?_
      refine z_goto (tgt := 84) S dX3_readOpenings_78 (by decide) ?_
      exact p_X3_readOpenings_J2_84 S  he hc hx hr
  · refine z_aload_n S dX3_readOpenings_43 rfl 0 rfl ?_
    refine z_getF (j := 104) S fo_RX3_14 2 rfl rfl ok_102 dX3_readOpenings_44 ?_
    obtain ⟨⟨r6, M7⟩, h9, he⟩ := bnd he
    dsimp only at he
    refine z_cVI (As := []) S cv_RX3_50 (K_X7_refuse ok_104 (Option.some.inj h9)) ok_104 (by decide) (q := (RX7, TX7, 9)) rfl rfl ⟨rfl, rfl⟩ ⟨Nat.le_of_ble_eq_true rfl, Nat.le_of_ble_eq_true rfl⟩ ⟨Nat.le_refl _, Nat.le_refl _⟩ rfl rfl (Nat.le_of_ble_eq_true rfl) dX3_readOpenings_47 ?_
    exact z_zret S (Prod.mk.inj (hr _ (Option.some.inj he).symm)) dX3_readOpenings_50
set_option maxRecDepth 100000 in
set_option maxHeartbeats 4000000 in
theorem p_X3_readOpenings_L2 {X : Cx} {p : Program} {l : Launch} {e : Env} {s : State} {m : MethodId} {args : Array Value} {below : List Frame} {meth : Method} {c : Code} (S : SB X 0 p s m args meth c cX3_readOpenings 2 (some .boolean) RX3) {M : Mm} {N : Mm} {r : Bool} {v1 : Int32} {x : (Mm × Int32) ⊕ ((Bool × Mm) ⊕ Mm)}  (he : f_X3_readOpenings_L2 M v1 = some x) (hc : ∀ b, x = .inl b → Z X 0 p l e rm_X3_readOpenings s m args below meth c 0 0 (MQ below (QI X 0 (bI r) N s.heap.size) args s 0 0 (AA X 0 s.heap.size)) 2 b.1 2 [(0, .ref (X.2.2 102)), (1, .int b.2)] []) (hx : ∀ b, x = .inr (.inr b) → Z X 0 p l e rm_X3_readOpenings s m args below meth c 0 0 (MQ below (QI X 0 (bI r) N s.heap.size) args s 0 0 (AA X 0 s.heap.size)) 2 b 100 [] []) (hr : ∀ v, x = .inr (.inl v) → v = (r, N)) : Z X 0 p l e rm_X3_readOpenings s m args below meth c 0 0 (MQ below (QI X 0 (bI r) N s.heap.size) args s 0 0 (AA X 0 s.heap.size)) 2 M 2 [(0, .ref (X.2.2 102)), (1, .int v1)] [] := by
  unfold f_X3_readOpenings_L2 at he
  refine z_iload_n S dX3_readOpenings_2 rfl 1 rfl ?_
  refine z_bipush (v := 6) S dX3_readOpenings_3 (by decide) ?_
  refine z_icmp_gt (tgt := 100) S he dX3_readOpenings_5 (by decide) (fun he => ?_) (fun he => ?_)
  · refine z_lv (ks := []) rfl ?_
    exact hx _ (Option.some.inj he).symm
  · refine z_aload_n S dX3_readOpenings_8 rfl 0 rfl ?_
    refine z_getF (j := 104) S fo_RX3_14 2 rfl rfl ok_102 dX3_readOpenings_9 ?_
    refine z_getWd S fo_RX3_30 rfl ok_104 he dX3_readOpenings_12 (fun q1 hq1 he => ?_)
    refine z_getW (i := 13) (j := 313) S (by decide) rfl rfl gw_RX3_111 dX3_readOpenings_15 ?_
    refine z_acmp_eq (tgt := 34) S hq1 (isW_add (i := 13) (by decide)) he dX3_readOpenings_18 (by decide) (fun he => ?_) (fun he => ?_)
    · exact p_X3_readOpenings_J2_34 S  he hc hx hr
    · refine z_aload_n S dX3_readOpenings_21 rfl 0 rfl ?_
      refine z_getF (j := 104) S fo_RX3_14 2 rfl rfl ok_102 dX3_readOpenings_22 ?_
      refine z_getWd S fo_RX3_30 rfl ok_104 he dX3_readOpenings_25 (fun q8 hq8 he => ?_)
      refine z_getW (i := 23) (j := 323) S (by decide) rfl rfl gw_RX3_114 dX3_readOpenings_28 ?_
      refine z_acmp_ne (tgt := 100) S hq8 (isW_add (i := 23) (by decide)) he dX3_readOpenings_31 (by decide) (fun he => ?_) (fun he => ?_)
      · refine z_lv (ks := []) rfl ?_
        exact hx _ (Option.some.inj he).symm
      · exact p_X3_readOpenings_J2_34 S  he hc hx hr
set_option maxRecDepth 100000 in
set_option maxHeartbeats 4000000 in
theorem K_X3_readOpenings {X : Cx} {l : Launch} {M : Mm} {r : Bool} {N : Mm}  (he : f_X3_readOpenings M  = some (r, N)) : KI X 0 l yX3_readOpenings (wz yX3_readOpenings cX3_readOpenings 2 (some .boolean)) rm_X3_readOpenings [.ref (X.2.2 102)] M (bI r) N := by
  intro sz
  refine K_of (Qc := (fun sz => QI X 0 (bI r) N sz)) (own := RX3) (lv0 := [(0, .ref (X.2.2 102))]) (by decide +kernel) rfl (Nat.le_of_ble_eq_true rfl) rfl (fun p e s m args below meth c S => ?_) sz
  · unfold f_X3_readOpenings at he
    refine z_iconst (v := 0) S dX3_readOpenings_0 (by decide) ?_
    refine z_istore_n (lv' := [(0, .ref (X.2.2 102)), (1, .int 0)]) S [1, 0] dX3_readOpenings_1 rfl (by decide) rfl ?_
    obtain ⟨r9, hl, hr1, hr2⟩ := bndS he
    have hX : ∀ e_9, r9 = .inr e_9 → Z X 0 p l e rm_X3_readOpenings s m args below meth c 0 0 (MQ below (QI X 0 (bI r) N s.heap.size) args s 0 0 (AA X 0 s.heap.size)) 2 e_9 100 [] [] := by
      intro e_9 hre
      have he := hr2 e_9 hre
      refine z_iconst (v := 1) S dX3_readOpenings_100 (by decide) ?_
      exact z_zret1 S (Prod.mk.inj (Option.some.inj he)) dX3_readOpenings_101
    exact loopZ (Zh := (fun a_9 => Z X 0 p l e rm_X3_readOpenings s m args below meth c 0 0 (MQ below (QI X 0 (bI r) N s.heap.size) args s 0 0 (AA X 0 s.heap.size)) 2 a_9.1 2 [(0, .ref (X.2.2 102)), (1, .int a_9.2)] [])) (fun a_9 x hb hc hr9 => p_X3_readOpenings_L2 S  hb hc (fun b hxe => hX b (hr9 _ hxe).symm) (fun v hxv => Option.some.inj (hr1 v (hr9 _ hxv).symm))) FU _ hl
set_option maxRecDepth 100000 in
set_option maxHeartbeats 4000000 in
theorem p_X3_readCondition_J12_123 {X : Cx} {p : Program} {l : Launch} {e : Env} {s : State} {m : MethodId} {args : Array Value} {below : List Frame} {meth : Method} {c : Code} (S : SB X 0 p s m args meth c cX3_readCondition 3 (some .boolean) RX3) {M : Mm} {N : Mm} {r : Bool} {v1 : Nat} {v2 : Int32} {x : (Mm × Int32) ⊕ ((Bool × Mm) ⊕ Mm)} (h_v1 : OK 0 v1 2) (he : f_X3_readCondition_J12_123 M v1 v2 = some x) (hc : ∀ b, x = .inl b → Z X 0 p l e rm_X3_readCondition s m args below meth c 0 0 (MQ below (QI X 0 (bI r) N s.heap.size) args s 0 0 (AA X 0 s.heap.size)) 3 b.1 12 [(0, .ref (X.2.2 102)), (1, .ref (X.2.2 v1)), (2, .int b.2)] []) (hx : ∀ b, x = .inr (.inr b) → Z X 0 p l e rm_X3_readCondition s m args below meth c 0 0 (MQ below (QI X 0 (bI r) N s.heap.size) args s 0 0 (AA X 0 s.heap.size)) 3 b 136 [(0, .ref (X.2.2 102))] []) (hr : ∀ v, x = .inr (.inl v) → v = (r, N)) : Z X 0 p l e rm_X3_readCondition s m args below meth c 0 0 (MQ below (QI X 0 (bI r) N s.heap.size) args s 0 0 (AA X 0 s.heap.size)) 3 M 123 [(0, .ref (X.2.2 102)), (1, .ref (X.2.2 v1)), (2, .int v2)] [] := by
  unfold f_X3_readCondition_J12_123 at he
  refine z_aload_n S dX3_readCondition_123 rfl 0 rfl ?_
  refine z_getF (j := 104) S fo_RX3_14 2 rfl rfl ok_102 dX3_readCondition_124 ?_
  obtain ⟨M12, h9, he⟩ := bnd he
  refine z_cVV (As := []) S cv_RX3_67 (K_X7_next ok_104 h9) ok_104 (by decide) (q := (RX7, TX7, 9)) rfl rfl ⟨rfl, rfl⟩ ⟨Nat.le_of_ble_eq_true rfl, Nat.le_of_ble_eq_true rfl⟩ ⟨Nat.le_refl _, Nat.le_refl _⟩ rfl rfl (Nat.le_of_ble_eq_true rfl) dX3_readCondition_127 ?_
  refine z_iinc (v := (v2 + 1)) (lv' := [(0, .ref (X.2.2 102)), (1, .ref (X.2.2 v1)), (2, .int (v2 + 1))]) S [1, 2, 0] 2 dX3_readCondition_130 rfl (by rfl) (by decide) rfl ?_
  refine z_goto (tgt := 12) S dX3_readCondition_133 (by decide) ?_
  refine z_lv (ks := [0, 1, 2]) rfl ?_
  exact hc _ (Option.some.inj he).symm
set_option maxRecDepth 100000 in
set_option maxHeartbeats 4000000 in
theorem p_X3_readCondition_J12_110 {X : Cx} {p : Program} {l : Launch} {e : Env} {s : State} {m : MethodId} {args : Array Value} {below : List Frame} {meth : Method} {c : Code} (S : SB X 0 p s m args meth c cX3_readCondition 3 (some .boolean) RX3) {M : Mm} {N : Mm} {r : Bool} {x : (Mm × Int32) ⊕ ((Bool × Mm) ⊕ Mm)} {v1 : Nat}  (he : f_X3_readCondition_J12_110 M  = some x) (hc : ∀ b, x = .inl b → Z X 0 p l e rm_X3_readCondition s m args below meth c 0 0 (MQ below (QI X 0 (bI r) N s.heap.size) args s 0 0 (AA X 0 s.heap.size)) 3 b.1 12 [(0, .ref (X.2.2 102)), (1, .ref (X.2.2 v1)), (2, .int b.2)] []) (hx : ∀ b, x = .inr (.inr b) → Z X 0 p l e rm_X3_readCondition s m args below meth c 0 0 (MQ below (QI X 0 (bI r) N s.heap.size) args s 0 0 (AA X 0 s.heap.size)) 3 b 136 [(0, .ref (X.2.2 102))] []) (hr : ∀ v, x = .inr (.inl v) → v = (r, N)) : Z X 0 p l e rm_X3_readCondition s m args below meth c 0 0 (MQ below (QI X 0 (bI r) N s.heap.size) args s 0 0 (AA X 0 s.heap.size)) 3 M 110 [] [] := by
  unfold f_X3_readCondition_J12_110 at he
  refine z_iconst (v := 1) S dX3_readCondition_110 (by decide) ?_
  refine z_goto (tgt := 115) S dX3_readCondition_111 (by decide) ?_
  exact z_zret1 S (Prod.mk.inj (hr _ (Option.some.inj he).symm)) dX3_readCondition_115
set_option maxRecDepth 100000 in
set_option maxHeartbeats 4000000 in
theorem p_X3_readCondition_L12 {X : Cx} {p : Program} {l : Launch} {e : Env} {s : State} {m : MethodId} {args : Array Value} {below : List Frame} {meth : Method} {c : Code} (S : SB X 0 p s m args meth c cX3_readCondition 3 (some .boolean) RX3) {M : Mm} {N : Mm} {r : Bool} {v1 : Nat} {v2 : Int32} {x : (Mm × Int32) ⊕ ((Bool × Mm) ⊕ Mm)} (h_v1 : OK 0 v1 2) (he : f_X3_readCondition_L12 M v1 v2 = some x) (hc : ∀ b, x = .inl b → Z X 0 p l e rm_X3_readCondition s m args below meth c 0 0 (MQ below (QI X 0 (bI r) N s.heap.size) args s 0 0 (AA X 0 s.heap.size)) 3 b.1 12 [(0, .ref (X.2.2 102)), (1, .ref (X.2.2 v1)), (2, .int b.2)] []) (hx : ∀ b, x = .inr (.inr b) → Z X 0 p l e rm_X3_readCondition s m args below meth c 0 0 (MQ below (QI X 0 (bI r) N s.heap.size) args s 0 0 (AA X 0 s.heap.size)) 3 b 136 [(0, .ref (X.2.2 102))] []) (hr : ∀ v, x = .inr (.inl v) → v = (r, N)) : Z X 0 p l e rm_X3_readCondition s m args below meth c 0 0 (MQ below (QI X 0 (bI r) N s.heap.size) args s 0 0 (AA X 0 s.heap.size)) 3 M 12 [(0, .ref (X.2.2 102)), (1, .ref (X.2.2 v1)), (2, .int v2)] [] := by
  unfold f_X3_readCondition_L12 at he
  refine z_iload_n S dX3_readCondition_12 rfl 2 rfl ?_
  refine z_sipush (v := 400) S dX3_readCondition_13 (by decide) ?_
  refine z_icmp_ge (tgt := 136) S he dX3_readCondition_16 (by decide) (fun he => ?_) (fun he => ?_)
  · refine z_lv (ks := [0]) rfl ?_
    exact hx _ (Option.some.inj he).symm
  · refine z_aload_n S dX3_readCondition_19 rfl 0 rfl ?_
    obtain ⟨⟨r3, M4⟩, h9, he⟩ := bnd he
    dsimp only at he
    refine z_cVI (As := []) S cv_RX3_87 (K_X3_readOpenings  h9) ok_102 (by decide) (q := (RX3, TX3, 4)) rfl rfl ⟨rfl, rfl⟩ ⟨Nat.le_of_ble_eq_true rfl, Nat.le_of_ble_eq_true rfl⟩ ⟨Nat.le_refl _, Nat.le_refl _⟩ rfl rfl (Nat.le_of_ble_eq_true rfl) dX3_readCondition_20 ?_
    refine z_ifb_eq (tgt := 34) S he dX3_readCondition_23 (by decide) (fun he => ?_) (fun he => ?_)
    · refine z_iconst (v := 0) S dX3_readCondition_34 (by decide) ?_
      exact z_zret0 S (Prod.mk.inj (hr _ (Option.some.inj he).symm)) dX3_readCondition_35
    · refine z_aload_n S dX3_readCondition_26 rfl 0 rfl ?_
      refine z_aload_n S dX3_readCondition_27 rfl 1 rfl ?_
      obtain ⟨⟨r5, M6⟩, h9, he⟩ := bnd he
      dsimp only at he
      refine z_cVI (As := [.ref (X.2.2 v1)]) S cv_RX3_90 (K_X3_readAtom h_v1 h9) ok_102 (by decide) (q := (RX3, TX3, 4)) rfl rfl ⟨rfl, rfl⟩ ⟨Nat.le_of_ble_eq_true rfl, Nat.le_of_ble_eq_true rfl⟩ ⟨Nat.le_refl _, Nat.le_refl _⟩ rfl rfl (Nat.le_of_ble_eq_true rfl) dX3_readCondition_28 ?_
      refine z_ifb_ne (tgt := 36) S he dX3_readCondition_31 (by decide) (fun he => ?_) (fun he => ?_)
      · refine z_aload_n S dX3_readCondition_36 rfl 0 rfl ?_
        refine z_aload_n S dX3_readCondition_37 rfl 1 rfl ?_
        obtain ⟨M7, h9, he⟩ := bnd he
        refine z_cVV (As := [.ref (X.2.2 v1)]) S cv_RX3_93 (K_X3_readClosings h_v1 h9) ok_102 (by decide) (q := (RX3, TX3, 4)) rfl rfl ⟨rfl, rfl⟩ ⟨Nat.le_of_ble_eq_true rfl, Nat.le_of_ble_eq_true rfl⟩ ⟨Nat.le_refl _, Nat.le_refl _⟩ rfl rfl (Nat.le_of_ble_eq_true rfl) dX3_readCondition_38 ?_
        refine z_aload_n S dX3_readCondition_41 rfl 0 rfl ?_
        refine z_getF (j := 104) S fo_RX3_14 2 rfl rfl ok_102 dX3_readCondition_42 ?_
        refine z_getWd S fo_RX3_30 rfl ok_104 he dX3_readCondition_45 (fun q8 hq8 he => ?_)
        refine z_getW (i := 14) (j := 314) S (by decide) rfl rfl gw_RX3_97 dX3_readCondition_48 ?_
        refine z_acmp_ne (tgt := 72) S hq8 (isW_add (i := 14) (by decide)) he dX3_readCondition_51 (by decide) (fun he => ?_) (fun he => ?_)
        · refine z_aload_n S dX3_readCondition_72 rfl 0 rfl ?_
          refine z_aload_n S dX3_readCondition_73 rfl 1 rfl ?_
          refine z_sipush (v := 1025) S dX3_readCondition_74 (by decide) ?_
          obtain ⟨M9, h9, he⟩ := bnd he
          refine z_cVV (As := [.ref (X.2.2 v1), .int 1025]) S cv_RX3_100 (K_X3_settle h_v1 h9) ok_102 (by decide) (q := (RX3, TX3, 4)) rfl rfl ⟨rfl, rfl⟩ ⟨Nat.le_of_ble_eq_true rfl, Nat.le_of_ble_eq_true rfl⟩ ⟨Nat.le_refl _, Nat.le_refl _⟩ rfl rfl (Nat.le_of_ble_eq_true rfl) dX3_readCondition_77 ?_
          refine z_aload_n S dX3_readCondition_80 rfl 0 rfl ?_
          refine z_getF (j := 104) S fo_RX3_14 2 rfl rfl ok_102 dX3_readCondition_81 ?_
          refine z_getWd S fo_RX3_30 rfl ok_104 he dX3_readCondition_84 (fun q10 hq10 he => ?_)
          refine z_getW (i := 15) (j := 315) S (by decide) rfl rfl gw_RX3_108 dX3_readCondition_87 ?_
          refine z_acmp_eq (tgt := 116) S hq10 (isW_add (i := 15) (by decide)) he dX3_readCondition_90 (by decide) (fun he => ?_) (fun he => ?_)
          · refine z_aload_n S dX3_readCondition_116 rfl 0 rfl ?_
            refine z_sipush (v := 1025) S dX3_readCondition_117 (by decide) ?_
            obtain ⟨M11, h9, he⟩ := bnd he
            refine z_cVV (As := [.int 1025]) S cv_RX3_104 (K_X3_leaveOpen  h9) ok_102 (by decide) (q := (RX3, TX3, 4)) rfl rfl ⟨rfl, rfl⟩ ⟨Nat.le_of_ble_eq_true rfl, Nat.le_of_ble_eq_true rfl⟩ ⟨Nat.le_refl _, Nat.le_refl _⟩ rfl rfl (Nat.le_of_ble_eq_true rfl) dX3_readCondition_120 ?_
            exact p_X3_readCondition_J12_123 S h_v1 he hc hx hr
          · refine z_aload_n S dX3_readCondition_93 rfl 0 rfl ?_
            refine z_getI S fo_RX3_80 rfl ok_102 dX3_readCondition_94 ?_
            refine z_if_eq (tgt := 110) S he dX3_readCondition_97 (by decide) (fun he => ?_) (fun he => ?_)
            · refine z_lv (ks := []) rfl ?_
              exact p_X3_readCondition_J12_110 S  he hc hx hr
            · refine z_aload_n S dX3_readCondition_100 rfl 0 rfl ?_
              refine z_getF (j := 104) S fo_RX3_14 2 rfl rfl ok_102 dX3_readCondition_101 ?_
              obtain ⟨⟨r13, M14⟩, h9, he⟩ := bnd he
              dsimp only at he
              refine z_cVI (As := []) S cv_RX3_50 (K_X7_refuse ok_104 (Option.some.inj h9)) ok_104 (by decide) (q := (RX7, TX7, 9)) rfl rfl ⟨rfl, rfl⟩ ⟨Nat.le_of_ble_eq_true rfl, Nat.le_of_ble_eq_true rfl⟩ ⟨Nat.le_refl _, Nat.le_refl _⟩ rfl rfl (Nat.le_of_ble_eq_true rfl) dX3_readCondition_104 ?_
              refine z_ifb_eq (tgt := 114) S he dX3_readCondition_107 (by decide) (fun he => ?_) (fun he => ?_)
              · refine z_iconst (v := 0) S dX3_readCondition_114 (by decide) ?_
                exact z_zret0 S (Prod.mk.inj (hr _ (Option.some.inj he).symm)) dX3_readCondition_115
              · refine z_lv (ks := []) rfl ?_
                exact p_X3_readCondition_J12_110 S  he hc hx hr
        · refine z_aload_n S dX3_readCondition_54 rfl 0 rfl ?_
          refine z_aload_n S dX3_readCondition_55 rfl 1 rfl ?_
          refine z_sipush (v := 1024) S dX3_readCondition_56 (by decide) ?_
          obtain ⟨M15, h9, he⟩ := bnd he
          refine z_cVV (As := [.ref (X.2.2 v1), .int 1024]) S cv_RX3_100 (K_X3_settle h_v1 h9) ok_102 (by decide) (q := (RX3, TX3, 4)) rfl rfl ⟨rfl, rfl⟩ ⟨Nat.le_of_ble_eq_true rfl, Nat.le_of_ble_eq_true rfl⟩ ⟨Nat.le_refl _, Nat.le_refl _⟩ rfl rfl (Nat.le_of_ble_eq_true rfl) dX3_readCondition_59 ?_
          refine z_aload_n S dX3_readCondition_62 rfl 0 rfl ?_
          refine z_sipush (v := 1024) S dX3_readCondition_63 (by decide) ?_
          obtain ⟨M16, h9, he⟩ := bnd he
          refine z_cVV (As := [.int 1024]) S cv_RX3_104 (K_X3_leaveOpen  h9) ok_102 (by decide) (q := (RX3, TX3, 4)) rfl rfl ⟨rfl, rfl⟩ ⟨Nat.le_of_ble_eq_true rfl, Nat.le_of_ble_eq_true rfl⟩ ⟨Nat.le_refl _, Nat.le_refl _⟩ rfl rfl (Nat.le_of_ble_eq_true rfl) dX3_readCondition_66 ?_
          refine z_goto (tgt := 123) S dX3_readCondition_69 (by decide) ?_
          exact p_X3_readCondition_J12_123 S h_v1 he hc hx hr
      · refine z_iconst (v := 0) S dX3_readCondition_34 (by decide) ?_
        exact z_zret0 S (Prod.mk.inj (hr _ (Option.some.inj he).symm)) dX3_readCondition_35
set_option maxRecDepth 100000 in
set_option maxHeartbeats 4000000 in
theorem K_X3_readCondition {X : Cx} {l : Launch} {M : Mm} {a1 : Nat} {r : Bool} {N : Mm} (h_a1 : OK 0 a1 2) (he : f_X3_readCondition M a1 = some (r, N)) : KI X 0 l yX3_readCondition (wz yX3_readCondition cX3_readCondition 3 (some .boolean)) rm_X3_readCondition [.ref (X.2.2 102), .ref (X.2.2 a1)] M (bI r) N := by
  intro sz
  refine K_of (Qc := (fun sz => QI X 0 (bI r) N sz)) (own := RX3) (lv0 := [(0, .ref (X.2.2 102)), (1, .ref (X.2.2 a1))]) (by decide +kernel) rfl (Nat.le_of_ble_eq_true rfl) rfl (fun p e s m args below meth c S => ?_) sz
  · unfold f_X3_readCondition at he
    refine z_aload_n S dX3_readCondition_0 rfl 0 rfl ?_
    refine z_iconst (v := 0) S dX3_readCondition_1 (by decide) ?_
    refine z_putIb S fo_RX3_80p rfl ok_102 rfl rfl he dX3_readCondition_2 (fun M1 he => ?_)
    refine z_aload_n S dX3_readCondition_5 rfl 0 rfl ?_
    refine z_iconst (v := 0) S dX3_readCondition_6 (by decide) ?_
    refine z_putIb S fo_RX3_84p rfl ok_102 rfl rfl he dX3_readCondition_7 (fun M2 he => ?_)
    refine z_iconst (v := 0) S dX3_readCondition_10 (by decide) ?_
    refine z_istore_n (lv' := [(0, .ref (X.2.2 102)), (1, .ref (X.2.2 a1)), (2, .int 0)]) S [1, 2, 0] dX3_readCondition_11 rfl (by decide) rfl ?_
    obtain ⟨r9, hl, hr1, hr2⟩ := bndS he
    have hX : ∀ e_17, r9 = .inr e_17 → Z X 0 p l e rm_X3_readCondition s m args below meth c 0 0 (MQ below (QI X 0 (bI r) N s.heap.size) args s 0 0 (AA X 0 s.heap.size)) 3 e_17 136 [(0, .ref (X.2.2 102))] [] := by
      intro e_17 hre
      have he := hr2 e_17 hre
      refine z_aload_n S dX3_readCondition_136 rfl 0 rfl ?_
      refine z_getF (j := 104) S fo_RX3_14 2 rfl rfl ok_102 dX3_readCondition_137 ?_
      obtain ⟨⟨r18, M19⟩, h9, he⟩ := bnd he
      dsimp only at he
      refine z_cVI (As := []) S cv_RX3_50 (K_X7_refuse ok_104 (Option.some.inj h9)) ok_104 (by decide) (q := (RX7, TX7, 9)) rfl rfl ⟨rfl, rfl⟩ ⟨Nat.le_of_ble_eq_true rfl, Nat.le_of_ble_eq_true rfl⟩ ⟨Nat.le_refl _, Nat.le_refl _⟩ rfl rfl (Nat.le_of_ble_eq_true rfl) dX3_readCondition_140 ?_
      exact z_zret S (Prod.mk.inj (Option.some.inj he)) dX3_readCondition_143
    exact loopZ (Zh := (fun a_17 => Z X 0 p l e rm_X3_readCondition s m args below meth c 0 0 (MQ below (QI X 0 (bI r) N s.heap.size) args s 0 0 (AA X 0 s.heap.size)) 3 a_17.1 12 [(0, .ref (X.2.2 102)), (1, .ref (X.2.2 a1)), (2, .int a_17.2)] [])) (fun a_17 x hb hc hr9 => p_X3_readCondition_L12 S h_a1 hb hc (fun b hxe => hX b (hr9 _ hxe).symm) (fun v hxv => Option.some.inj (hr1 v (hr9 _ hxv).symm))) FU _ hl
set_option maxRecDepth 100000 in
set_option maxHeartbeats 4000000 in
theorem p_X3_readLine_J150 {X : Cx} {p : Program} {l : Launch} {e : Env} {s : State} {m : MethodId} {args : Array Value} {below : List Frame} {meth : Method} {c : Code} (S : SB X 0 p s m args meth c cX3_readLine 5 (some .boolean) RX3) {M : Mm} {N : Mm} {r : Bool} {t0 : Int32} {t1 : Int32} {t2 : Nat} (h_t2 : OK 0 t2 2) (he : f_X3_readLine_J150 M t0 t1 t2 = some (r, N)) : Z X 0 p l e rm_X3_readLine s m args below meth c 0 0 (MQ below (QI X 0 (bI r) N s.heap.size) args s 0 0 (AA X 0 s.heap.size)) 5 M 150 [] [.int t0, .int t1, .ref (X.2.2 t2)] := by
  unfold f_X3_readLine_J150 at he
  obtain ⟨M9, h9, he⟩ := bnd he
  refine z_cVV (As := [.int t1, .int t0]) S cv_RX3_76 (K_X2_endLine h_t2 h9) h_t2 (by decide) (q := (RX2, TX2, 7)) rfl rfl ⟨rfl, rfl⟩ ⟨Nat.le_of_ble_eq_true rfl, Nat.le_of_ble_eq_true rfl⟩ ⟨Nat.le_refl _, Nat.le_refl _⟩ rfl rfl (Nat.le_of_ble_eq_true rfl) dX3_readLine_150 ?_
  refine z_iconst (v := 1) S dX3_readLine_153 (by decide) ?_
  exact z_zret1 S (Prod.mk.inj (Option.some.inj he)) dX3_readLine_154
set_option maxRecDepth 100000 in
set_option maxHeartbeats 4000000 in
theorem p_X3_readLine_J136 {X : Cx} {p : Program} {l : Launch} {e : Env} {s : State} {m : MethodId} {args : Array Value} {below : List Frame} {meth : Method} {c : Code} (S : SB X 0 p s m args meth c cX3_readLine 5 (some .boolean) RX3) {M : Mm} {N : Mm} {r : Bool} {v1 : Nat} {v2 : Int32} {v3 : Int32} {v4 : Int32} (h_v1 : OK 0 v1 2) (he : f_X3_readLine_J136 M v1 v2 v3 v4 = some (r, N)) : Z X 0 p l e rm_X3_readLine s m args below meth c 0 0 (MQ below (QI X 0 (bI r) N s.heap.size) args s 0 0 (AA X 0 s.heap.size)) 5 M 136 [(1, .ref (X.2.2 v1)), (2, .int v2), (3, .int v3), (4, .int v4)] [] := by
  unfold f_X3_readLine_J136 at he
  refine z_aload_n S dX3_readLine_136 rfl 0 rfl ?_
  refine z_iload_n S dX3_readLine_137 rfl 2 rfl ?_
  refine z_iload_n S dX3_readLine_138 rfl 1 rfl ?_
  refine z_if_eq (tgt := 147) S he dX3_readLine_139 (by decide) (fun he => ?_) (fun he => ?_)
  · refine z_iload S dX3_readLine_147 3 rfl ?_
    refine z_ineg S dX3_readLine_149 ?_
    refine z_lv (ks := []) rfl ?_
    exact p_X3_readLine_J150 S h_v1 he
  · refine z_iload S dX3_readLine_142 3 rfl ?_
    refine z_goto (tgt := 150) S dX3_readLine_144 (by decide) ?_
    refine z_lv (ks := []) rfl ?_
    exact p_X3_readLine_J150 S h_v1 he
set_option maxRecDepth 100000 in
set_option maxHeartbeats 4000000 in
theorem p_X3_readLine_J73 {X : Cx} {p : Program} {l : Launch} {e : Env} {s : State} {m : MethodId} {args : Array Value} {below : List Frame} {meth : Method} {c : Code} (S : SB X 0 p s m args meth c cX3_readLine 5 (some .boolean) RX3) {M : Mm} {N : Mm} {r : Bool} {v1 : Nat} {v2 : Int32} {v3 : Int32} (h_v1 : OK 0 v1 2) (he : f_X3_readLine_J73 M v1 v2 v3 = some (r, N)) : Z X 0 p l e rm_X3_readLine s m args below meth c 0 0 (MQ below (QI X 0 (bI r) N s.heap.size) args s 0 0 (AA X 0 s.heap.size)) 5 M 73 [(0, .ref (X.2.2 102)), (1, .ref (X.2.2 v1)), (2, .int v2), (3, .int v3)] [] := by
  unfold f_X3_readLine_J73 at he
  refine z_aload_n S dX3_readLine_73 rfl 0 rfl ?_
  refine z_getF (j := 104) S fo_RX3_14 2 rfl rfl ok_102 dX3_readLine_74 ?_
  obtain ⟨M4, h9, he⟩ := bnd he
  refine z_cVV (As := []) S cv_RX3_67 (K_X7_next ok_104 h9) ok_104 (by decide) (q := (RX7, TX7, 9)) rfl rfl ⟨rfl, rfl⟩ ⟨Nat.le_of_ble_eq_true rfl, Nat.le_of_ble_eq_true rfl⟩ ⟨Nat.le_refl _, Nat.le_refl _⟩ rfl rfl (Nat.le_of_ble_eq_true rfl) dX3_readLine_77 ?_
  refine z_aload_n S dX3_readLine_80 rfl 0 rfl ?_
  refine z_getF (j := 104) S fo_RX3_14 2 rfl rfl ok_102 dX3_readLine_81 ?_
  refine z_iconst (v := 0) S dX3_readLine_84 (by decide) ?_
  refine z_bipush (v := 99) S dX3_readLine_85 (by decide) ?_
  obtain ⟨r5, h9, he⟩ := bnd he
  refine z_cVI (As := [.int 0, .int 99]) S cv_RX3_60 (K_X7_numberWithin ok_104 h9) ok_104 (by decide) (q := (RX7, TX7, 9)) rfl rfl ⟨rfl, rfl⟩ ⟨Nat.le_of_ble_eq_true rfl, Nat.le_of_ble_eq_true rfl⟩ ⟨Nat.le_refl _, Nat.le_refl _⟩ rfl rfl (Nat.le_of_ble_eq_true rfl) dX3_readLine_87 ?_
  refine z_istore (lv' := [(0, .ref (X.2.2 102)), (1, .ref (X.2.2 v1)), (2, .int v2), (3, .int v3), (4, .int r5)]) S [1, 2, 3, 4, 0] dX3_readLine_90 (by decide) rfl ?_
  refine z_iload S dX3_readLine_92 4 rfl ?_
  refine z_iconst (v := (-1)) S dX3_readLine_94 (by decide) ?_
  refine z_icmp_ne (tgt := 106) S he dX3_readLine_95 (by decide) (fun he => ?_) (fun he => ?_)
  · refine z_aload_n S dX3_readLine_106 rfl 0 rfl ?_
    refine z_getF (j := 104) S fo_RX3_14 2 rfl rfl ok_102 dX3_readLine_107 ?_
    obtain ⟨M6, h9, he⟩ := bnd he
    refine z_cVV (As := []) S cv_RX3_67 (K_X7_next ok_104 h9) ok_104 (by decide) (q := (RX7, TX7, 9)) rfl rfl ⟨rfl, rfl⟩ ⟨Nat.le_of_ble_eq_true rfl, Nat.le_of_ble_eq_true rfl⟩ ⟨Nat.le_refl _, Nat.le_refl _⟩ rfl rfl (Nat.le_of_ble_eq_true rfl) dX3_readLine_110 ?_
    refine z_aload_n S dX3_readLine_113 rfl 0 rfl ?_
    refine z_getF (j := 104) S fo_RX3_14 2 rfl rfl ok_102 dX3_readLine_114 ?_
    refine z_getW (i := 12) (j := 312) S (by decide) rfl rfl gw_RX3_70 dX3_readLine_117 ?_
    obtain ⟨⟨r7, M8⟩, h9, he⟩ := bnd he
    dsimp only at he
    refine z_cVI (As := [.ref (X.2.2 312)]) S cv_RX3_46 (K_X7_skip ok_104 (isW_add (i := 12) (by decide)) h9) ok_104 (by decide) (q := (RX7, TX7, 9)) rfl rfl ⟨rfl, rfl⟩ ⟨Nat.le_of_ble_eq_true rfl, Nat.le_of_ble_eq_true rfl⟩ ⟨Nat.le_refl _, Nat.le_refl _⟩ rfl rfl (Nat.le_of_ble_eq_true rfl) dX3_readLine_120 ?_
    refine z_ifb_eq (tgt := 136) S he dX3_readLine_123 (by decide) (fun he => ?_) (fun he => ?_)
    · refine z_lv (ks := [1, 2, 3, 4]) rfl ?_
      exact p_X3_readLine_J136 S h_v1 he
    · refine z_aload_n S dX3_readLine_126 rfl 0 rfl ?_
      refine z_aload_n S dX3_readLine_127 rfl 1 rfl ?_
      obtain ⟨⟨r10, M11⟩, h9, he⟩ := bnd he
      dsimp only at he
      refine z_cVI (As := [.ref (X.2.2 v1)]) S cv_RX3_73 (K_X3_readCondition h_v1 h9) ok_102 (by decide) (q := (RX3, TX3, 4)) rfl rfl ⟨rfl, rfl⟩ ⟨Nat.le_of_ble_eq_true rfl, Nat.le_of_ble_eq_true rfl⟩ ⟨Nat.le_refl _, Nat.le_refl _⟩ rfl rfl (Nat.le_of_ble_eq_true rfl) dX3_readLine_128 ?_
      refine z_ifb_ne (tgt := 136) S he dX3_readLine_131 (by decide) (fun he => ?_) (fun he => ?_)
      · refine z_lv (ks := [1, 2, 3, 4]) rfl ?_
        exact p_X3_readLine_J136 S h_v1 he
      · refine z_iconst (v := 0) S dX3_readLine_134 (by decide) ?_
        exact z_zret0 S (Prod.mk.inj (Option.some.inj he)) dX3_readLine_135
  · refine z_aload_n S dX3_readLine_98 rfl 0 rfl ?_
    refine z_getF (j := 104) S fo_RX3_14 2 rfl rfl ok_102 dX3_readLine_99 ?_
    obtain ⟨⟨r12, M13⟩, h9, he⟩ := bnd he
    dsimp only at he
    refine z_cVI (As := []) S cv_RX3_50 (K_X7_refuse ok_104 (Option.some.inj h9)) ok_104 (by decide) (q := (RX7, TX7, 9)) rfl rfl ⟨rfl, rfl⟩ ⟨Nat.le_of_ble_eq_true rfl, Nat.le_of_ble_eq_true rfl⟩ ⟨Nat.le_refl _, Nat.le_refl _⟩ rfl rfl (Nat.le_of_ble_eq_true rfl) dX3_readLine_102 ?_
    exact z_zret S (Prod.mk.inj (Option.some.inj he)) dX3_readLine_105
set_option maxRecDepth 100000 in
set_option maxHeartbeats 4000000 in
theorem p_X3_readLine_J36 {X : Cx} {p : Program} {l : Launch} {e : Env} {s : State} {m : MethodId} {args : Array Value} {below : List Frame} {meth : Method} {c : Code} (S : SB X 0 p s m args meth c cX3_readLine 5 (some .boolean) RX3) {M : Mm} {N : Mm} {r : Bool} {v1 : Nat} {v2 : Int32} (h_v1 : OK 0 v1 2) (he : f_X3_readLine_J36 M v1 v2 = some (r, N)) : Z X 0 p l e rm_X3_readLine s m args below meth c 0 0 (MQ below (QI X 0 (bI r) N s.heap.size) args s 0 0 (AA X 0 s.heap.size)) 5 M 36 [(0, .ref (X.2.2 102)), (1, .ref (X.2.2 v1)), (2, .int v2)] [] := by
  unfold f_X3_readLine_J36 at he
  refine z_aload_n S dX3_readLine_36 rfl 0 rfl ?_
  refine z_getF (j := 104) S fo_RX3_14 2 rfl rfl ok_102 dX3_readLine_37 ?_
  refine z_iconst (v := 0) S dX3_readLine_40 (by decide) ?_
  refine z_bipush (v := 8) S dX3_readLine_41 (by decide) ?_
  obtain ⟨r3, h9, he⟩ := bnd he
  refine z_cVI (As := [.int 0, .int 8]) S cv_RX3_60 (K_X7_numberWithin ok_104 h9) ok_104 (by decide) (q := (RX7, TX7, 9)) rfl rfl ⟨rfl, rfl⟩ ⟨Nat.le_of_ble_eq_true rfl, Nat.le_of_ble_eq_true rfl⟩ ⟨Nat.le_refl _, Nat.le_refl _⟩ rfl rfl (Nat.le_of_ble_eq_true rfl) dX3_readLine_43 ?_
  refine z_istore_n (lv' := [(0, .ref (X.2.2 102)), (1, .ref (X.2.2 v1)), (2, .int v2), (3, .int r3)]) S [1, 2, 3, 0] dX3_readLine_46 rfl (by decide) rfl ?_
  refine z_iload_n S dX3_readLine_47 rfl 3 rfl ?_
  refine z_iconst (v := (-1)) S dX3_readLine_48 (by decide) ?_
  refine z_icmp_ne (tgt := 73) S he dX3_readLine_49 (by decide) (fun he => ?_) (fun he => ?_)
  · exact p_X3_readLine_J73 S h_v1 he
  · refine z_aload_n S dX3_readLine_52 rfl 0 rfl ?_
    refine z_getF (j := 104) S fo_RX3_14 2 rfl rfl ok_102 dX3_readLine_53 ?_
    refine z_getWd S fo_RX3_30 rfl ok_104 he dX3_readLine_56 (fun q14 hq14 he => ?_)
    refine z_getW (i := 11) (j := 311) S (by decide) rfl rfl gw_RX3_64 dX3_readLine_59 ?_
    refine z_acmp_eq (tgt := 73) S hq14 (isW_add (i := 11) (by decide)) he dX3_readLine_62 (by decide) (fun he => ?_) (fun he => ?_)
    · exact p_X3_readLine_J73 S h_v1 he
    · refine z_aload_n S dX3_readLine_65 rfl 0 rfl ?_
      refine z_getF (j := 104) S fo_RX3_14 2 rfl rfl ok_102 dX3_readLine_66 ?_
      obtain ⟨⟨r15, M16⟩, h9, he⟩ := bnd he
      dsimp only at he
      refine z_cVI (As := []) S cv_RX3_50 (K_X7_refuse ok_104 (Option.some.inj h9)) ok_104 (by decide) (q := (RX7, TX7, 9)) rfl rfl ⟨rfl, rfl⟩ ⟨Nat.le_of_ble_eq_true rfl, Nat.le_of_ble_eq_true rfl⟩ ⟨Nat.le_refl _, Nat.le_refl _⟩ rfl rfl (Nat.le_of_ble_eq_true rfl) dX3_readLine_69 ?_
      exact z_zret S (Prod.mk.inj (Option.some.inj he)) dX3_readLine_72
set_option maxRecDepth 100000 in
set_option maxHeartbeats 4000000 in
theorem K_X3_readLine {X : Cx} {l : Launch} {M : Mm} {a1 : Nat} {r : Bool} {N : Mm} (h_a1 : OK 0 a1 2) (he : f_X3_readLine M a1 = some (r, N)) : KI X 0 l yX3_readLine (wz yX3_readLine cX3_readLine 5 (some .boolean)) rm_X3_readLine [.ref (X.2.2 102), .ref (X.2.2 a1)] M (bI r) N := by
  intro sz
  refine K_of (Qc := (fun sz => QI X 0 (bI r) N sz)) (own := RX3) (lv0 := [(0, .ref (X.2.2 102)), (1, .ref (X.2.2 a1))]) (by decide +kernel) rfl (Nat.le_of_ble_eq_true rfl) rfl (fun p e s m args below meth c S => ?_) sz
  · unfold f_X3_readLine at he
    refine z_aload_n S dX3_readLine_0 rfl 0 rfl ?_
    refine z_getF (j := 104) S fo_RX3_14 2 rfl rfl ok_102 dX3_readLine_1 ?_
    refine z_getW (i := 9) (j := 309) S (by decide) rfl rfl gw_RX3_54 dX3_readLine_4 ?_
    obtain ⟨⟨r1, M2⟩, h9, he⟩ := bnd he
    dsimp only at he
    refine z_cVI (As := [.ref (X.2.2 309)]) S cv_RX3_46 (K_X7_skip ok_104 (isW_add (i := 9) (by decide)) h9) ok_104 (by decide) (q := (RX7, TX7, 9)) rfl rfl ⟨rfl, rfl⟩ ⟨Nat.le_of_ble_eq_true rfl, Nat.le_of_ble_eq_true rfl⟩ ⟨Nat.le_refl _, Nat.le_refl _⟩ rfl rfl (Nat.le_of_ble_eq_true rfl) dX3_readLine_7 ?_
    refine z_istore_n (lv' := [(0, .ref (X.2.2 102)), (1, .ref (X.2.2 a1)), (2, .int (bI r1))]) S [1, 2, 0] dX3_readLine_10 rfl (by decide) rfl ?_
    refine z_iload_n S dX3_readLine_11 rfl 2 rfl ?_
    refine z_ifb_ne (tgt := 36) S he dX3_readLine_12 (by decide) (fun he => ?_) (fun he => ?_)
    · exact p_X3_readLine_J36 S h_a1 he
    · refine z_aload_n S dX3_readLine_15 rfl 0 rfl ?_
      refine z_getF (j := 104) S fo_RX3_14 2 rfl rfl ok_102 dX3_readLine_16 ?_
      refine z_getW (i := 10) (j := 310) S (by decide) rfl rfl gw_RX3_57 dX3_readLine_19 ?_
      obtain ⟨⟨r17, M18⟩, h9, he⟩ := bnd he
      dsimp only at he
      refine z_cVI (As := [.ref (X.2.2 310)]) S cv_RX3_46 (K_X7_skip ok_104 (isW_add (i := 10) (by decide)) h9) ok_104 (by decide) (q := (RX7, TX7, 9)) rfl rfl ⟨rfl, rfl⟩ ⟨Nat.le_of_ble_eq_true rfl, Nat.le_of_ble_eq_true rfl⟩ ⟨Nat.le_refl _, Nat.le_refl _⟩ rfl rfl (Nat.le_of_ble_eq_true rfl) dX3_readLine_22 ?_
      refine z_ifb_ne (tgt := 36) S he dX3_readLine_25 (by decide) (fun he => ?_) (fun he => ?_)
      · exact p_X3_readLine_J36 S h_a1 he
      · refine z_aload_n S dX3_readLine_28 rfl 0 rfl ?_
        refine z_getF (j := 104) S fo_RX3_14 2 rfl rfl ok_102 dX3_readLine_29 ?_
        obtain ⟨⟨r19, M20⟩, h9, he⟩ := bnd he
        dsimp only at he
        refine z_cVI (As := []) S cv_RX3_50 (K_X7_refuse ok_104 (Option.some.inj h9)) ok_104 (by decide) (q := (RX7, TX7, 9)) rfl rfl ⟨rfl, rfl⟩ ⟨Nat.le_of_ble_eq_true rfl, Nat.le_of_ble_eq_true rfl⟩ ⟨Nat.le_refl _, Nat.le_refl _⟩ rfl rfl (Nat.le_of_ble_eq_true rfl) dX3_readLine_32 ?_
        exact z_zret S (Prod.mk.inj (Option.some.inj he)) dX3_readLine_35
set_option maxRecDepth 100000 in
set_option maxHeartbeats 4000000 in
theorem K_X4_copyFrom {X : Cx} {l : Launch} {M : Mm} {a0 : Nat} {a1 : Nat} {N : Mm} (h_a0 : OK 0 a0 4) (h_a1 : OK 0 a1 4) (he : f_X4_copyFrom M a0 a1 = some N) : KV X 0 l yX4_copyFrom (wz yX4_copyFrom cX4_copyFrom 2 none) rm_X4_copyFrom [.ref (X.2.2 a0), .ref (X.2.2 a1)] M N := by
  intro sz
  refine K_of (Qc := (fun sz => QV X 0 N sz)) (own := RX4) (lv0 := [(0, .ref (X.2.2 a0)), (1, .ref (X.2.2 a1))]) (by decide +kernel) rfl (Nat.le_of_ble_eq_true rfl) rfl (fun p e s m args below meth c S => ?_) sz
  · unfold f_X4_copyFrom at he
    refine z_aload_n S dX4_copyFrom_0 rfl 1 rfl ?_
    refine z_getF (j := (a1 + 1)) S fo_RX4_9 1 rfl rfl h_a1 dX4_copyFrom_1 ?_
    refine z_iconst (v := 0) S dX4_copyFrom_4 (by decide) ?_
    refine z_aload_n S dX4_copyFrom_5 rfl 0 rfl ?_
    refine z_getF (j := (a0 + 1)) S fo_RX4_9 1 rfl rfl h_a0 dX4_copyFrom_6 ?_
    refine z_iconst (v := 0) S dX4_copyFrom_9 (by decide) ?_
    refine z_aload_n S dX4_copyFrom_10 rfl 0 rfl ?_
    refine z_getF (j := (a0 + 1)) S fo_RX4_9 1 rfl rfl h_a0 dX4_copyFrom_11 ?_
    refine z_alen (v := 45) S (okf4_1 h_a0).1 (cel_i (okf4_1 h_a0).1.2.2) rfl (okf4_1 h_a0).2 rfl dX4_copyFrom_14 ?_
    refine z_copyb S ca_RX4_28 (okf4_1 h_a1).1 (okf4_1 h_a0).1 (okf4_1 h_a1).2 (okf4_1 h_a0).2 (by decide) (by decide) (Nat.le_of_ble_eq_true rfl) (Nat.le_of_ble_eq_true rfl) he dX4_copyFrom_15 (fun M1 he => ?_)
    refine z_aload_n S dX4_copyFrom_18 rfl 1 rfl ?_
    refine z_getF (j := (a1 + 2)) S fo_RX4_15 2 rfl rfl h_a1 dX4_copyFrom_19 ?_
    refine z_iconst (v := 0) S dX4_copyFrom_22 (by decide) ?_
    refine z_aload_n S dX4_copyFrom_23 rfl 0 rfl ?_
    refine z_getF (j := (a0 + 2)) S fo_RX4_15 2 rfl rfl h_a0 dX4_copyFrom_24 ?_
    refine z_iconst (v := 0) S dX4_copyFrom_27 (by decide) ?_
    refine z_aload_n S dX4_copyFrom_28 rfl 0 rfl ?_
    refine z_getF (j := (a0 + 2)) S fo_RX4_15 2 rfl rfl h_a0 dX4_copyFrom_29 ?_
    refine z_alen (v := 50) S (okf4_2 h_a0).1 (cel_i (okf4_2 h_a0).1.2.2) rfl (okf4_2 h_a0).2 rfl dX4_copyFrom_32 ?_
    refine z_copyb S ca_RX4_28 (okf4_2 h_a1).1 (okf4_2 h_a0).1 (okf4_2 h_a1).2 (okf4_2 h_a0).2 (by decide) (by decide) (Nat.le_of_ble_eq_true rfl) (Nat.le_of_ble_eq_true rfl) he dX4_copyFrom_33 (fun M2 he => ?_)
    refine z_aload_n S dX4_copyFrom_36 rfl 1 rfl ?_
    refine z_getF (j := (a1 + 3)) S fo_RX4_18 3 rfl rfl h_a1 dX4_copyFrom_37 ?_
    refine z_iconst (v := 0) S dX4_copyFrom_40 (by decide) ?_
    refine z_aload_n S dX4_copyFrom_41 rfl 0 rfl ?_
    refine z_getF (j := (a0 + 3)) S fo_RX4_18 3 rfl rfl h_a0 dX4_copyFrom_42 ?_
    refine z_iconst (v := 0) S dX4_copyFrom_45 (by decide) ?_
    refine z_aload_n S dX4_copyFrom_46 rfl 0 rfl ?_
    refine z_getF (j := (a0 + 3)) S fo_RX4_18 3 rfl rfl h_a0 dX4_copyFrom_47 ?_
    refine z_alen (v := 300) S (okf4_3 h_a0).1 (cel_i (okf4_3 h_a0).1.2.2) rfl (okf4_3 h_a0).2 rfl dX4_copyFrom_50 ?_
    refine z_copyb S ca_RX4_28 (okf4_3 h_a1).1 (okf4_3 h_a0).1 (okf4_3 h_a1).2 (okf4_3 h_a0).2 (by decide) (by decide) (Nat.le_of_ble_eq_true rfl) (Nat.le_of_ble_eq_true rfl) he dX4_copyFrom_51 (fun M3 he => ?_)
    refine z_aload_n S dX4_copyFrom_54 rfl 0 rfl ?_
    refine z_aload_n S dX4_copyFrom_55 rfl 1 rfl ?_
    refine z_getI S fo_RX4_34 rfl h_a1 dX4_copyFrom_56 ?_
    refine z_putIb S fo_RX4_34p rfl h_a0 rfl rfl he dX4_copyFrom_59 (fun M4 he => ?_)
    refine z_aload_n S dX4_copyFrom_62 rfl 0 rfl ?_
    refine z_aload_n S dX4_copyFrom_63 rfl 1 rfl ?_
    refine z_getI S fo_RX4_37 rfl h_a1 dX4_copyFrom_64 ?_
    refine z_putIb S fo_RX4_37p rfl h_a0 rfl rfl he dX4_copyFrom_67 (fun M5 he => ?_)
    refine z_aload_n S dX4_copyFrom_70 rfl 0 rfl ?_
    refine z_aload_n S dX4_copyFrom_71 rfl 1 rfl ?_
    refine z_getI S fo_RX4_40 rfl h_a1 dX4_copyFrom_72 ?_
    refine z_putIb S fo_RX4_40p rfl h_a0 rfl rfl he dX4_copyFrom_75 (fun M6 he => ?_)
    refine z_aload_n S dX4_copyFrom_78 rfl 0 rfl ?_
    refine z_aload_n S dX4_copyFrom_79 rfl 1 rfl ?_
    refine z_getI S fo_RX4_21 rfl h_a1 dX4_copyFrom_80 ?_
    refine z_putIb S fo_RX4_21p rfl h_a0 rfl rfl he dX4_copyFrom_83 (fun M7 he => ?_)
    refine z_aload_n S dX4_copyFrom_86 rfl 0 rfl ?_
    refine z_aload_n S dX4_copyFrom_87 rfl 1 rfl ?_
    refine z_getI S fo_RX4_43 rfl h_a1 dX4_copyFrom_88 ?_
    refine z_putIb S fo_RX4_43p rfl h_a0 rfl rfl he dX4_copyFrom_91 (fun M8 he => ?_)
    refine z_aload_n S dX4_copyFrom_94 rfl 0 rfl ?_
    refine z_aload_n S dX4_copyFrom_95 rfl 1 rfl ?_
    refine z_getI S fo_RX4_25 rfl h_a1 dX4_copyFrom_96 ?_
    refine z_putIb S fo_RX4_25p rfl h_a0 rfl rfl he dX4_copyFrom_99 (fun M9 he => ?_)
    refine z_aload_n S dX4_copyFrom_102 rfl 0 rfl ?_
    refine z_aload_n S dX4_copyFrom_103 rfl 1 rfl ?_
    refine z_getI S fo_RX4_46 rfl h_a1 dX4_copyFrom_104 ?_
    refine z_putIb S fo_RX4_46p rfl h_a0 rfl rfl he dX4_copyFrom_107 (fun M10 he => ?_)
    exact z_vret S (Option.some.inj he) dX4_copyFrom_110
set_option maxRecDepth 100000 in
set_option maxHeartbeats 4000000 in
theorem K_X4_drawsAway {X : Cx} {l : Launch} {M : Mm} {a0 : Nat} {a1 : Int32} {r : Bool} {N : Mm} (h_a0 : OK 0 a0 4) (he : f_X4_drawsAway M a0 a1 = (r, N)) : KI X 0 l yX4_drawsAway (wz yX4_drawsAway cX4_drawsAway 2 (some .boolean)) rm_X4_drawsAway [.ref (X.2.2 a0), .int a1] M (bI r) N := by
  intro sz
  refine K_of (Qc := (fun sz => QI X 0 (bI r) N sz)) (own := RX4) (lv0 := [(0, .ref (X.2.2 a0)), (1, .int a1)]) (by decide +kernel) rfl (Nat.le_of_ble_eq_true rfl) rfl (fun p e s m args below meth c S => ?_) sz
  · unfold f_X4_drawsAway at he
    refine z_aload_n S dX4_drawsAway_0 rfl 0 rfl ?_
    refine z_aload_n S dX4_drawsAway_1 rfl 0 rfl ?_
    refine z_getI S fo_RX4_25 rfl h_a0 dX4_drawsAway_2 ?_
    refine z_ldc (v := 1103515245) S kc_RX4_71 dX4_drawsAway_5 ?_
    refine z_imul S dX4_drawsAway_7 ?_
    refine z_sipush (v := 12345) S dX4_drawsAway_8 (by decide) ?_
    refine z_iadd S dX4_drawsAway_11 ?_
    refine z_putI S fo_RX4_25p rfl h_a0 rfl rfl dX4_drawsAway_12 ?_
    refine z_aload_n S dX4_drawsAway_15 rfl 0 rfl ?_
    refine z_getI S fo_RX4_25 rfl h_a0 dX4_drawsAway_16 ?_
    refine z_bipush (v := 16) S dX4_drawsAway_19 (by decide) ?_
    refine z_iushr S dX4_drawsAway_21 ?_
    refine z_sipush (v := 32767) S dX4_drawsAway_22 (by decide) ?_
    refine z_iand S dX4_drawsAway_25 ?_
    refine z_bipush (v := 100) S dX4_drawsAway_26 (by decide) ?_
    refine z_irem S (by decide) dX4_drawsAway_28 ?_
    refine z_aload_n S dX4_drawsAway_29 rfl 0 rfl ?_
    refine z_iload_n S dX4_drawsAway_30 rfl 1 rfl ?_
    refine z_iconst (v := 3) S dX4_drawsAway_31 (by decide) ?_
    refine z_cVI (As := [.int a1, .int 3]) S cv_RX4_65 (K_X4_ofVisitor h_a0 rfl) h_a0 (by decide) (q := (RX4, TX4, 10)) rfl rfl ⟨rfl, rfl⟩ ⟨Nat.le_of_ble_eq_true rfl, Nat.le_of_ble_eq_true rfl⟩ ⟨Nat.le_refl _, Nat.le_refl _⟩ rfl rfl (Nat.le_of_ble_eq_true rfl) dX4_drawsAway_32 ?_
    refine z_icmp_ge (tgt := 42) S he dX4_drawsAway_35 (by decide) (fun he => ?_) (fun he => ?_)
    · refine z_iconst (v := 0) S dX4_drawsAway_42 (by decide) ?_
      exact z_zret0 S (Prod.mk.inj (he)) dX4_drawsAway_43
    · refine z_iconst (v := 1) S dX4_drawsAway_38 (by decide) ?_
      refine z_goto (tgt := 43) S dX4_drawsAway_39 (by decide) ?_
      exact z_zret1 S (Prod.mk.inj (he)) dX4_drawsAway_43
set_option maxRecDepth 100000 in
set_option maxHeartbeats 4000000 in
theorem K_X4_logRows {X : Cx} {l : Launch} {M : Mm} {a0 : Nat} {r : Int32} (h_a0 : OK 0 a0 4) (he : f_X4_logRows M a0 = r) : KI X 0 l yX4_logRows (wz yX4_logRows cX4_logRows 1 (some .int)) rm_X4_logRows [.ref (X.2.2 a0)] M r M := by
  intro sz
  refine K_of (Qc := (fun sz => QI X 0 r M sz)) (own := RX4) (lv0 := [(0, .ref (X.2.2 a0))]) (by decide +kernel) rfl (Nat.le_of_ble_eq_true rfl) rfl (fun p e s m args below meth c S => ?_) sz
  · unfold f_X4_logRows at he
    refine z_aload_n S dX4_logRows_0 rfl 0 rfl ?_
    refine z_getI S fo_RX4_46 rfl h_a0 dX4_logRows_1 ?_
    refine z_bipush (v := 60) S dX4_logRows_4 (by decide) ?_
    refine z_mmin S cm_RX4_76 (Nat.le_of_ble_eq_true rfl) (Nat.le_of_ble_eq_true rfl) ⟨Nat.le_refl _, Nat.le_refl _⟩ dX4_logRows_6 ?_
    exact z_iret S (⟨he, rfl⟩) dX4_logRows_9
set_option maxRecDepth 100000 in
set_option maxHeartbeats 4000000 in
theorem K_X4_logged {X : Cx} {l : Launch} {M : Mm} {a0 : Nat} {a1 : Int32} {a2 : Int32} {r : Int32} (h_a0 : OK 0 a0 4) (he : f_X4_logged M a0 a1 a2 = r) : KI X 0 l yX4_logged (wz yX4_logged cX4_logged 3 (some .int)) rm_X4_logged [.ref (X.2.2 a0), .int a1, .int a2] M r M := by
  intro sz
  refine K_of (Qc := (fun sz => QI X 0 r M sz)) (own := RX4) (lv0 := [(0, .ref (X.2.2 a0)), (1, .int a1), (2, .int a2)]) (by decide +kernel) rfl (Nat.le_of_ble_eq_true rfl) rfl (fun p e s m args below meth c S => ?_) sz
  · unfold f_X4_logged at he
    refine z_aload_n S dX4_logged_0 rfl 0 rfl ?_
    refine z_getF (j := (a0 + 3)) S fo_RX4_18 3 rfl rfl h_a0 dX4_logged_1 ?_
    refine z_aload_n S dX4_logged_4 rfl 0 rfl ?_
    refine z_getI S fo_RX4_46 rfl h_a0 dX4_logged_5 ?_
    refine z_iconst (v := 1) S dX4_logged_8 (by decide) ?_
    refine z_isub S dX4_logged_9 ?_
    refine z_iload_n S dX4_logged_10 rfl 1 rfl ?_
    refine z_isub S dX4_logged_11 ?_
    refine z_bipush (v := 60) S dX4_logged_12 (by decide) ?_
    refine z_irem S (by decide) dX4_logged_14 ?_
    refine z_iconst (v := 5) S dX4_logged_15 (by decide) ?_
    refine z_imul S dX4_logged_16 ?_
    refine z_iload_n S dX4_logged_17 rfl 2 rfl ?_
    refine z_iadd S dX4_logged_18 ?_
    refine z_cNI (As := [.ref (X.2.2 (a0 + 3)), .int ((((((gI M a0 9) - 1) - a1) - (((gI M a0 9) - 1) - a1) / 60 * 60) * 5) + a2)]) S cn_RX4_49 (Kt_X9_at (okf4_3 h_a0).1 rfl) ⟨rfl, rfl⟩ ⟨Nat.le_of_ble_eq_true rfl, Nat.le_of_ble_eq_true rfl⟩ ⟨Nat.le_refl _, Nat.le_refl _⟩ rfl rfl (Nat.le_of_ble_eq_true rfl) dX4_logged_19 ?_
    exact z_iret S (⟨he, rfl⟩) dX4_logged_22
set_option maxRecDepth 100000 in
set_option maxHeartbeats 4000000 in
theorem K_X4_stepOf {X : Cx} {l : Launch} {M : Mm} {a0 : Nat} {a1 : Int32} {r : Int32} (h_a0 : OK 0 a0 4) (he : f_X4_stepOf M a0 a1 = some r) : KI X 0 l yX4_stepOf (wz yX4_stepOf cX4_stepOf 2 (some .int)) rm_X4_stepOf [.ref (X.2.2 a0), .int a1] M r M := by
  intro sz
  refine K_of (Qc := (fun sz => QI X 0 r M sz)) (own := RX4) (lv0 := [(0, .ref (X.2.2 a0)), (1, .int a1)]) (by decide +kernel) rfl (Nat.le_of_ble_eq_true rfl) rfl (fun p e s m args below meth c S => ?_) sz
  · unfold f_X4_stepOf at he
    refine z_aload_n S dX4_stepOf_0 rfl 0 rfl ?_
    refine z_getI S fo_RX4_21 rfl h_a0 dX4_stepOf_1 ?_
    refine z_if_le (tgt := 16) S he dX4_stepOf_4 (by decide) (fun he => ?_) (fun he => ?_)
    · refine z_iconst (v := 0) S dX4_stepOf_16 (by decide) ?_
      exact z_iret S (⟨Option.some.inj he, rfl⟩) dX4_stepOf_17
    · refine z_iload_n S dX4_stepOf_7 rfl 1 rfl ?_
      refine z_aload_n S dX4_stepOf_8 rfl 0 rfl ?_
      refine z_getI S fo_RX4_21 rfl h_a0 dX4_stepOf_9 ?_
      obtain ⟨hy9, he⟩ := grd he
      refine z_idiv S hy9 dX4_stepOf_12 ?_
      refine z_goto (tgt := 17) S dX4_stepOf_13 (by decide) ?_
      exact z_iret S (⟨Option.some.inj he, rfl⟩) dX4_stepOf_17
theorem Kt_X4_stepOf {X : Cx} {l : Launch} {M : Mm} {a0 : Nat} {a1 : Int32} {r : Int32} (h_a0 : OK 0 a0 4) (he : t_X4_stepOf M a0 a1 = r) : KI X 0 l yX4_stepOf (wz yX4_stepOf cX4_stepOf 2 (some .int)) rm_X4_stepOf [.ref (X.2.2 a0), .int a1] M r M := K_X4_stepOf h_a0 (by rw [te_X4_stepOf, he])
set_option maxRecDepth 100000 in
set_option maxHeartbeats 4000000 in
theorem K_X4_note {X : Cx} {l : Launch} {M : Mm} {a0 : Nat} {a1 : Int32} {a2 : Int32} {a3 : Int32} {N : Mm} (h_a0 : OK 0 a0 4) (he : f_X4_note M a0 a1 a2 a3 = some N) : KV X 0 l yX4_note (wz yX4_note cX4_note 5 none) rm_X4_note [.ref (X.2.2 a0), .int a1, .int a2, .int a3] M N := by
  intro sz
  refine K_of (Qc := (fun sz => QV X 0 N sz)) (own := RX4) (lv0 := [(0, .ref (X.2.2 a0)), (1, .int a1), (2, .int a2), (3, .int a3)]) (by decide +kernel) rfl (Nat.le_of_ble_eq_true rfl) rfl (fun p e s m args below meth c S => ?_) sz
  · unfold f_X4_note at he
    refine z_aload_n S dX4_note_0 rfl 0 rfl ?_
    refine z_getI S fo_RX4_46 rfl h_a0 dX4_note_1 ?_
    refine z_bipush (v := 60) S dX4_note_4 (by decide) ?_
    refine z_irem S (by decide) dX4_note_6 ?_
    refine z_iconst (v := 5) S dX4_note_7 (by decide) ?_
    refine z_imul S dX4_note_8 ?_
    obtain ⟨x1, ex1, he⟩ := bnd he
    rw [Option.some.inj ex1]
    refine z_istore (lv' := [(0, .ref (X.2.2 a0)), (1, .int a1), (2, .int a2), (3, .int a3), (4, .int x1)]) S [1, 2, 3, 4, 0] dX4_note_9 (by decide) rfl ?_
    refine z_aload_n S dX4_note_11 rfl 0 rfl ?_
    refine z_getF (j := (a0 + 3)) S fo_RX4_18 3 rfl rfl h_a0 dX4_note_12 ?_
    refine z_iload S dX4_note_15 4 rfl ?_
    refine z_aload_n S dX4_note_17 rfl 0 rfl ?_
    refine z_getI S fo_RX4_43 rfl h_a0 dX4_note_18 ?_
    obtain ⟨M2, h9, he⟩ := bnd he
    refine z_cNV (As := [.ref (X.2.2 (a0 + 3)), .int x1, .int (gI M a0 7)]) S cn_RX4_53 (Kt_X9_put (okf4_3 h_a0).1 (Option.some.inj h9)) ⟨rfl, rfl⟩ ⟨Nat.le_of_ble_eq_true rfl, Nat.le_of_ble_eq_true rfl⟩ ⟨Nat.le_refl _, Nat.le_refl _⟩ rfl rfl (Nat.le_of_ble_eq_true rfl) dX4_note_21 ?_
    refine z_aload_n S dX4_note_24 rfl 0 rfl ?_
    refine z_getF (j := (a0 + 3)) S fo_RX4_18 3 rfl rfl h_a0 dX4_note_25 ?_
    refine z_iload S dX4_note_28 4 rfl ?_
    refine z_iconst (v := 1) S dX4_note_30 (by decide) ?_
    refine z_iadd S dX4_note_31 ?_
    refine z_iload_n S dX4_note_32 rfl 1 rfl ?_
    obtain ⟨M3, h9, he⟩ := bnd he
    refine z_cNV (As := [.ref (X.2.2 (a0 + 3)), .int (x1 + 1), .int a1]) S cn_RX4_53 (Kt_X9_put (okf4_3 h_a0).1 (Option.some.inj h9)) ⟨rfl, rfl⟩ ⟨Nat.le_of_ble_eq_true rfl, Nat.le_of_ble_eq_true rfl⟩ ⟨Nat.le_refl _, Nat.le_refl _⟩ rfl rfl (Nat.le_of_ble_eq_true rfl) dX4_note_33 ?_
    refine z_aload_n S dX4_note_36 rfl 0 rfl ?_
    refine z_getF (j := (a0 + 3)) S fo_RX4_18 3 rfl rfl h_a0 dX4_note_37 ?_
    refine z_iload S dX4_note_40 4 rfl ?_
    refine z_iconst (v := 2) S dX4_note_42 (by decide) ?_
    refine z_iadd S dX4_note_43 ?_
    refine z_iload_n S dX4_note_44 rfl 2 rfl ?_
    obtain ⟨M4, h9, he⟩ := bnd he
    refine z_cNV (As := [.ref (X.2.2 (a0 + 3)), .int (x1 + 2), .int a2]) S cn_RX4_53 (Kt_X9_put (okf4_3 h_a0).1 (Option.some.inj h9)) ⟨rfl, rfl⟩ ⟨Nat.le_of_ble_eq_true rfl, Nat.le_of_ble_eq_true rfl⟩ ⟨Nat.le_refl _, Nat.le_refl _⟩ rfl rfl (Nat.le_of_ble_eq_true rfl) dX4_note_45 ?_
    refine z_aload_n S dX4_note_48 rfl 0 rfl ?_
    refine z_getF (j := (a0 + 3)) S fo_RX4_18 3 rfl rfl h_a0 dX4_note_49 ?_
    refine z_iload S dX4_note_52 4 rfl ?_
    refine z_iconst (v := 3) S dX4_note_54 (by decide) ?_
    refine z_iadd S dX4_note_55 ?_
    refine z_iload_n S dX4_note_56 rfl 3 rfl ?_
    obtain ⟨M5, h9, he⟩ := bnd he
    refine z_cNV (As := [.ref (X.2.2 (a0 + 3)), .int (x1 + 3), .int a3]) S cn_RX4_53 (Kt_X9_put (okf4_3 h_a0).1 (Option.some.inj h9)) ⟨rfl, rfl⟩ ⟨Nat.le_of_ble_eq_true rfl, Nat.le_of_ble_eq_true rfl⟩ ⟨Nat.le_refl _, Nat.le_refl _⟩ rfl rfl (Nat.le_of_ble_eq_true rfl) dX4_note_57 ?_
    refine z_aload_n S dX4_note_60 rfl 0 rfl ?_
    refine z_getF (j := (a0 + 3)) S fo_RX4_18 3 rfl rfl h_a0 dX4_note_61 ?_
    refine z_iload S dX4_note_64 4 rfl ?_
    refine z_iconst (v := 4) S dX4_note_66 (by decide) ?_
    refine z_iadd S dX4_note_67 ?_
    refine z_aload_n S dX4_note_68 rfl 0 rfl ?_
    refine z_aload_n S dX4_note_69 rfl 0 rfl ?_
    refine z_iload_n S dX4_note_70 rfl 2 rfl ?_
    refine z_iconst (v := 0) S dX4_note_71 (by decide) ?_
    refine z_cVI (As := [.int a2, .int 0]) S cv_RX4_57 (K_X4_ofThing h_a0 rfl) h_a0 (by decide) (q := (RX4, TX4, 10)) rfl rfl ⟨rfl, rfl⟩ ⟨Nat.le_of_ble_eq_true rfl, Nat.le_of_ble_eq_true rfl⟩ ⟨Nat.le_refl _, Nat.le_refl _⟩ rfl rfl (Nat.le_of_ble_eq_true rfl) dX4_note_72 ?_
    refine z_cVI (As := [.int (f_X4_ofThing M5 a0 a2 0)]) S cv_RX4_72 (Kt_X4_stepOf h_a0 rfl) h_a0 (by decide) (q := (RX4, TX4, 10)) rfl rfl ⟨rfl, rfl⟩ ⟨Nat.le_of_ble_eq_true rfl, Nat.le_of_ble_eq_true rfl⟩ ⟨Nat.le_refl _, Nat.le_refl _⟩ rfl rfl (Nat.le_of_ble_eq_true rfl) dX4_note_75 ?_
    obtain ⟨M6, h9, he⟩ := bnd he
    refine z_cNV (As := [.ref (X.2.2 (a0 + 3)), .int (x1 + 4), .int (t_X4_stepOf M5 a0 (f_X4_ofThing M5 a0 a2 0))]) S cn_RX4_53 (Kt_X9_put (okf4_3 h_a0).1 (Option.some.inj h9)) ⟨rfl, rfl⟩ ⟨Nat.le_of_ble_eq_true rfl, Nat.le_of_ble_eq_true rfl⟩ ⟨Nat.le_refl _, Nat.le_refl _⟩ rfl rfl (Nat.le_of_ble_eq_true rfl) dX4_note_78 ?_
    refine z_aload_n S dX4_note_81 rfl 0 rfl ?_
    refine z_dup S rfl dX4_note_82 ?_
    refine z_getI S fo_RX4_46 rfl h_a0 dX4_note_83 ?_
    refine z_iconst (v := 1) S dX4_note_86 (by decide) ?_
    refine z_iadd S dX4_note_87 ?_
    refine z_putIb S fo_RX4_46p rfl h_a0 rfl rfl he dX4_note_88 (fun M7 he => ?_)
    exact z_vret S (Option.some.inj he) dX4_note_91
set_option maxRecDepth 100000 in
set_option maxHeartbeats 4000000 in
theorem K_X4_rings {X : Cx} {l : Launch} {M : Mm} {a0 : Nat} {a1 : Int32} {a2 : Int32} {r : Bool} (h_a0 : OK 0 a0 4) (he : f_X4_rings M a0 a1 a2 = r) : KI X 0 l yX4_rings (wz yX4_rings cX4_rings 3 (some .boolean)) rm_X4_rings [.ref (X.2.2 a0), .int a1, .int a2] M (bI r) M := by
  intro sz
  refine K_of (Qc := (fun sz => QI X 0 (bI r) M sz)) (own := RX4) (lv0 := [(0, .ref (X.2.2 a0)), (1, .int a1), (2, .int a2)]) (by decide +kernel) rfl (Nat.le_of_ble_eq_true rfl) rfl (fun p e s m args below meth c S => ?_) sz
  · unfold f_X4_rings at he
    refine z_aload_n S dX4_rings_0 rfl 0 rfl ?_
    refine z_iload_n S dX4_rings_1 rfl 1 rfl ?_
    refine z_iconst (v := 3) S dX4_rings_2 (by decide) ?_
    refine z_cVI (As := [.int a1, .int 3]) S cv_RX4_57 (K_X4_ofThing h_a0 rfl) h_a0 (by decide) (q := (RX4, TX4, 10)) rfl rfl ⟨rfl, rfl⟩ ⟨Nat.le_of_ble_eq_true rfl, Nat.le_of_ble_eq_true rfl⟩ ⟨Nat.le_refl _, Nat.le_refl _⟩ rfl rfl (Nat.le_of_ble_eq_true rfl) dX4_rings_3 ?_
    refine z_iconst (v := 1) S dX4_rings_6 (by decide) ?_
    refine z_icmp_ne (tgt := 35) S he dX4_rings_7 (by decide) (fun he => ?_) (fun he => ?_)
    · refine z_iconst (v := 0) S dX4_rings_35 (by decide) ?_
      exact z_zret0 S (⟨he, rfl⟩) dX4_rings_36
    · refine z_iload_n S dX4_rings_10 rfl 2 rfl ?_
      refine z_if_le (tgt := 35) S he dX4_rings_11 (by decide) (fun he => ?_) (fun he => ?_)
      · refine z_iconst (v := 0) S dX4_rings_35 (by decide) ?_
        exact z_zret0 S (⟨he, rfl⟩) dX4_rings_36
      · refine z_iload_n S dX4_rings_14 rfl 2 rfl ?_
        refine z_aload_n S dX4_rings_15 rfl 0 rfl ?_
        refine z_iload_n S dX4_rings_16 rfl 1 rfl ?_
        refine z_iconst (v := 1) S dX4_rings_17 (by decide) ?_
        refine z_cVI (As := [.int a1, .int 1]) S cv_RX4_57 (K_X4_ofThing h_a0 rfl) h_a0 (by decide) (q := (RX4, TX4, 10)) rfl rfl ⟨rfl, rfl⟩ ⟨Nat.le_of_ble_eq_true rfl, Nat.le_of_ble_eq_true rfl⟩ ⟨Nat.le_refl _, Nat.le_refl _⟩ rfl rfl (Nat.le_of_ble_eq_true rfl) dX4_rings_18 ?_
        refine z_aload_n S dX4_rings_21 rfl 0 rfl ?_
        refine z_iload_n S dX4_rings_22 rfl 1 rfl ?_
        refine z_iconst (v := 4) S dX4_rings_23 (by decide) ?_
        refine z_cVI (As := [.int a1, .int 4]) S cv_RX4_57 (K_X4_ofThing h_a0 rfl) h_a0 (by decide) (q := (RX4, TX4, 10)) rfl rfl ⟨rfl, rfl⟩ ⟨Nat.le_of_ble_eq_true rfl, Nat.le_of_ble_eq_true rfl⟩ ⟨Nat.le_refl _, Nat.le_refl _⟩ rfl rfl (Nat.le_of_ble_eq_true rfl) dX4_rings_24 ?_
        refine z_isub S dX4_rings_27 ?_
        refine z_icmp_lt (tgt := 35) S he dX4_rings_28 (by decide) (fun he => ?_) (fun he => ?_)
        · refine z_iconst (v := 0) S dX4_rings_35 (by decide) ?_
          exact z_zret0 S (⟨he, rfl⟩) dX4_rings_36
        · refine z_iconst (v := 1) S dX4_rings_31 (by decide) ?_
          refine z_goto (tgt := 36) S dX4_rings_32 (by decide) ?_
          exact z_zret1 S (⟨he, rfl⟩) dX4_rings_36
set_option maxRecDepth 100000 in
set_option maxHeartbeats 4000000 in
theorem p_X4_shownThings_L4 {X : Cx} {p : Program} {l : Launch} {e : Env} {s : State} {m : MethodId} {args : Array Value} {below : List Frame} {meth : Method} {c : Code} (S : SB X 0 p s m args meth c cX4_shownThings 3 (some .int) RX4) {M : Mm} {r : Int32} {v0 : Nat} {v1 : Int32} {v2 : Int32} {x : (Int32 × Int32) ⊕ Int32} (h_v0 : OK 0 v0 4) (he : f_X4_shownThings_L4 M v0 v1 v2 = some x) (hc : ∀ b, x = .inl b → Z X 0 p l e rm_X4_shownThings s m args below meth c 0 0 (MQ below (QI X 0 r M s.heap.size) args s 0 0 (AA X 0 s.heap.size)) 3 M 4 [(0, .ref (X.2.2 v0)), (1, .int b.1), (2, .int b.2)] []) (hx : ∀ b, x = .inr b → Z X 0 p l e rm_X4_shownThings s m args below meth c 0 0 (MQ below (QI X 0 r M s.heap.size) args s 0 0 (AA X 0 s.heap.size)) 3 M 29 [(1, .int b)] []) : Z X 0 p l e rm_X4_shownThings s m args below meth c 0 0 (MQ below (QI X 0 r M s.heap.size) args s 0 0 (AA X 0 s.heap.size)) 3 M 4 [(0, .ref (X.2.2 v0)), (1, .int v1), (2, .int v2)] [] := by
  unfold f_X4_shownThings_L4 at he
  refine z_iload_n S dX4_shownThings_4 rfl 2 rfl ?_
  refine z_aload_n S dX4_shownThings_5 rfl 0 rfl ?_
  refine z_getI S fo_RX4_34 rfl h_v0 dX4_shownThings_6 ?_
  refine z_icmp_ge (tgt := 29) S he dX4_shownThings_9 (by decide) (fun he => ?_) (fun he => ?_)
  · refine z_lv (ks := [1]) rfl ?_
    exact hx _ (Option.some.inj he).symm
  · refine z_iload_n S dX4_shownThings_12 rfl 1 rfl ?_
    refine z_aload_n S dX4_shownThings_13 rfl 0 rfl ?_
    refine z_iload_n S dX4_shownThings_14 rfl 2 rfl ?_
    refine z_iconst (v := 3) S dX4_shownThings_15 (by decide) ?_
    refine z_cVI (As := [.int v2, .int 3]) S cv_RX4_57 (K_X4_ofThing h_v0 rfl) h_v0 (by decide) (q := (RX4, TX4, 10)) rfl rfl ⟨rfl, rfl⟩ ⟨Nat.le_of_ble_eq_true rfl, Nat.le_of_ble_eq_true rfl⟩ ⟨Nat.le_refl _, Nat.le_refl _⟩ rfl rfl (Nat.le_of_ble_eq_true rfl) dX4_shownThings_16 ?_
    refine z_iload_n S dX4_shownThings_19 rfl 2 rfl ?_
    refine z_ishl S dX4_shownThings_20 ?_
    refine z_ior S dX4_shownThings_21 ?_
    obtain ⟨x1, ex1, he⟩ := bnd he
    rw [Option.some.inj ex1]
    refine z_istore_n (lv' := [(0, .ref (X.2.2 v0)), (1, .int x1), (2, .int v2)]) S [1, 0, 2] dX4_shownThings_22 rfl (by decide) rfl ?_
    refine z_iinc (v := (v2 + 1)) (lv' := [(0, .ref (X.2.2 v0)), (1, .int x1), (2, .int (v2 + 1))]) S [1, 2, 0] 2 dX4_shownThings_23 rfl (by rfl) (by decide) rfl ?_
    refine z_goto (tgt := 4) S dX4_shownThings_26 (by decide) ?_
    refine z_lv (ks := [0, 1, 2]) rfl ?_
    exact hc _ (Option.some.inj he).symm
set_option maxRecDepth 100000 in
set_option maxHeartbeats 4000000 in
theorem K_X4_shownThings {X : Cx} {l : Launch} {M : Mm} {a0 : Nat} {r : Int32} (h_a0 : OK 0 a0 4) (he : f_X4_shownThings M a0 = some r) : KI X 0 l yX4_shownThings (wz yX4_shownThings cX4_shownThings 3 (some .int)) rm_X4_shownThings [.ref (X.2.2 a0)] M r M := by
  intro sz
  refine K_of (Qc := (fun sz => QI X 0 r M sz)) (own := RX4) (lv0 := [(0, .ref (X.2.2 a0))]) (by decide +kernel) rfl (Nat.le_of_ble_eq_true rfl) rfl (fun p e s m args below meth c S => ?_) sz
  · unfold f_X4_shownThings at he
    refine z_iconst (v := 0) S dX4_shownThings_0 (by decide) ?_
    refine z_istore_n (lv' := [(0, .ref (X.2.2 a0)), (1, .int 0)]) S [1, 0] dX4_shownThings_1 rfl (by decide) rfl ?_
    refine z_iconst (v := 0) S dX4_shownThings_2 (by decide) ?_
    refine z_istore_n (lv' := [(0, .ref (X.2.2 a0)), (1, .int 0), (2, .int 0)]) S [1, 2, 0] dX4_shownThings_3 rfl (by decide) rfl ?_
    obtain ⟨e_2, hl, he⟩ := bnd he
    have hX : Z X 0 p l e rm_X4_shownThings s m args below meth c 0 0 (MQ below (QI X 0 r M s.heap.size) args s 0 0 (AA X 0 s.heap.size)) 3 M 29 [(1, .int e_2)] [] := by
      refine z_iload_n S dX4_shownThings_29 rfl 0 rfl ?_
      exact z_iret S (⟨Option.some.inj he, rfl⟩) dX4_shownThings_30
    exact loopZ (Zh := (fun a_2 => Z X 0 p l e rm_X4_shownThings s m args below meth c 0 0 (MQ below (QI X 0 r M s.heap.size) args s 0 0 (AA X 0 s.heap.size)) 3 M 4 [(0, .ref (X.2.2 a0)), (1, .int a_2.1), (2, .int a_2.2)] [])) (fun a_2 x hb hc hr => p_X4_shownThings_L4 S h_a0 hb hc (fun b hxe => by rw [hr b hxe]; exact hX)) FU _ hl
set_option maxRecDepth 100000 in
set_option maxHeartbeats 4000000 in
theorem p_X4_sumOfThings_L4 {X : Cx} {p : Program} {l : Launch} {e : Env} {s : State} {m : MethodId} {args : Array Value} {below : List Frame} {meth : Method} {c : Code} (S : SB X 0 p s m args meth c cX4_sumOfThings 4 (some .int) RX4) {M : Mm} {r : Int32} {v0 : Nat} {v1 : Int32} {v2 : Int32} {v3 : Int32} {x : (Int32 × Int32) ⊕ Int32} (h_v0 : OK 0 v0 4) (he : f_X4_sumOfThings_L4 M v0 v1 v2 v3 = some x) (hc : ∀ b, x = .inl b → Z X 0 p l e rm_X4_sumOfThings s m args below meth c 0 0 (MQ below (QI X 0 r M s.heap.size) args s 0 0 (AA X 0 s.heap.size)) 4 M 4 [(0, .ref (X.2.2 v0)), (1, .int v1), (2, .int b.1), (3, .int b.2)] []) (hx : ∀ b, x = .inr b → Z X 0 p l e rm_X4_sumOfThings s m args below meth c 0 0 (MQ below (QI X 0 r M s.heap.size) args s 0 0 (AA X 0 s.heap.size)) 4 M 27 [(2, .int b)] []) : Z X 0 p l e rm_X4_sumOfThings s m args below meth c 0 0 (MQ below (QI X 0 r M s.heap.size) args s 0 0 (AA X 0 s.heap.size)) 4 M 4 [(0, .ref (X.2.2 v0)), (1, .int v1), (2, .int v2), (3, .int v3)] [] := by
  unfold f_X4_sumOfThings_L4 at he
  refine z_iload_n S dX4_sumOfThings_4 rfl 3 rfl ?_
  refine z_aload_n S dX4_sumOfThings_5 rfl 0 rfl ?_
  refine z_getI S fo_RX4_34 rfl h_v0 dX4_sumOfThings_6 ?_
  refine z_icmp_ge (tgt := 27) S he dX4_sumOfThings_9 (by decide) (fun he => ?_) (fun he => ?_)
  · refine z_lv (ks := [2]) rfl ?_
    exact hx _ (Option.some.inj he).symm
  · refine z_iload_n S dX4_sumOfThings_12 rfl 2 rfl ?_
    refine z_aload_n S dX4_sumOfThings_13 rfl 0 rfl ?_
    refine z_iload_n S dX4_sumOfThings_14 rfl 3 rfl ?_
    refine z_iload_n S dX4_sumOfThings_15 rfl 1 rfl ?_
    refine z_cVI (As := [.int v3, .int v1]) S cv_RX4_57 (K_X4_ofThing h_v0 rfl) h_v0 (by decide) (q := (RX4, TX4, 10)) rfl rfl ⟨rfl, rfl⟩ ⟨Nat.le_of_ble_eq_true rfl, Nat.le_of_ble_eq_true rfl⟩ ⟨Nat.le_refl _, Nat.le_refl _⟩ rfl rfl (Nat.le_of_ble_eq_true rfl) dX4_sumOfThings_16 ?_
    refine z_iadd S dX4_sumOfThings_19 ?_
    obtain ⟨x1, ex1, he⟩ := bnd he
    rw [Option.some.inj ex1]
    refine z_istore_n (lv' := [(0, .ref (X.2.2 v0)), (1, .int v1), (2, .int x1), (3, .int v3)]) S [1, 2, 0, 3] dX4_sumOfThings_20 rfl (by decide) rfl ?_
    refine z_iinc (v := (v3 + 1)) (lv' := [(0, .ref (X.2.2 v0)), (1, .int v1), (2, .int x1), (3, .int (v3 + 1))]) S [1, 2, 3, 0] 3 dX4_sumOfThings_21 rfl (by rfl) (by decide) rfl ?_
    refine z_goto (tgt := 4) S dX4_sumOfThings_24 (by decide) ?_
    refine z_lv (ks := [0, 1, 2, 3]) rfl ?_
    exact hc _ (Option.some.inj he).symm
set_option maxRecDepth 100000 in
set_option maxHeartbeats 4000000 in
theorem K_X4_sumOfThings {X : Cx} {l : Launch} {M : Mm} {a0 : Nat} {a1 : Int32} {r : Int32} (h_a0 : OK 0 a0 4) (he : f_X4_sumOfThings M a0 a1 = some r) : KI X 0 l yX4_sumOfThings (wz yX4_sumOfThings cX4_sumOfThings 4 (some .int)) rm_X4_sumOfThings [.ref (X.2.2 a0), .int a1] M r M := by
  intro sz
  refine K_of (Qc := (fun sz => QI X 0 r M sz)) (own := RX4) (lv0 := [(0, .ref (X.2.2 a0)), (1, .int a1)]) (by decide +kernel) rfl (Nat.le_of_ble_eq_true rfl) rfl (fun p e s m args below meth c S => ?_) sz
  · unfold f_X4_sumOfThings at he
    refine z_iconst (v := 0) S dX4_sumOfThings_0 (by decide) ?_
    refine z_istore_n (lv' := [(0, .ref (X.2.2 a0)), (1, .int a1), (2, .int 0)]) S [1, 2, 0] dX4_sumOfThings_1 rfl (by decide) rfl ?_
    refine z_iconst (v := 0) S dX4_sumOfThings_2 (by decide) ?_
    refine z_istore_n (lv' := [(0, .ref (X.2.2 a0)), (1, .int a1), (2, .int 0), (3, .int 0)]) S [1, 2, 3, 0] dX4_sumOfThings_3 rfl (by decide) rfl ?_
    obtain ⟨e_2, hl, he⟩ := bnd he
    have hX : Z X 0 p l e rm_X4_sumOfThings s m args below meth c 0 0 (MQ below (QI X 0 r M s.heap.size) args s 0 0 (AA X 0 s.heap.size)) 4 M 27 [(2, .int e_2)] [] := by
      refine z_iload_n S dX4_sumOfThings_27 rfl 0 rfl ?_
      exact z_iret S (⟨Option.some.inj he, rfl⟩) dX4_sumOfThings_28
    exact loopZ (Zh := (fun a_2 => Z X 0 p l e rm_X4_sumOfThings s m args below meth c 0 0 (MQ below (QI X 0 r M s.heap.size) args s 0 0 (AA X 0 s.heap.size)) 4 M 4 [(0, .ref (X.2.2 a0)), (1, .int a1), (2, .int a_2.1), (3, .int a_2.2)] [])) (fun a_2 x hb hc hr => p_X4_sumOfThings_L4 S h_a0 hb hc (fun b hxe => by rw [hr b hxe]; exact hX)) FU _ hl
set_option maxRecDepth 100000 in
set_option maxHeartbeats 4000000 in
theorem K_X4_swapCells {X : Cx} {l : Launch} {M : Mm} {a0 : Nat} {a1 : Int32} {a2 : Int32} {N : Mm} (h_a0 : OK 0 a0 4) (he : f_X4_swapCells M a0 a1 a2 = some N) : KV X 0 l yX4_swapCells (wz yX4_swapCells cX4_swapCells 4 none) rm_X4_swapCells [.ref (X.2.2 a0), .int a1, .int a2] M N := by
  intro sz
  refine K_of (Qc := (fun sz => QV X 0 N sz)) (own := RX4) (lv0 := [(0, .ref (X.2.2 a0)), (1, .int a1), (2, .int a2)]) (by decide +kernel) rfl (Nat.le_of_ble_eq_true rfl) rfl (fun p e s m args below meth c S => ?_) sz
  · unfold f_X4_swapCells at he
    refine z_aload_n S dX4_swapCells_0 rfl 0 rfl ?_
    refine z_iload_n S dX4_swapCells_1 rfl 1 rfl ?_
    refine z_iconst (v := 0) S dX4_swapCells_2 (by decide) ?_
    refine z_cVI (As := [.int a1, .int 0]) S cv_RX4_57 (K_X4_ofThing h_a0 rfl) h_a0 (by decide) (q := (RX4, TX4, 10)) rfl rfl ⟨rfl, rfl⟩ ⟨Nat.le_of_ble_eq_true rfl, Nat.le_of_ble_eq_true rfl⟩ ⟨Nat.le_refl _, Nat.le_refl _⟩ rfl rfl (Nat.le_of_ble_eq_true rfl) dX4_swapCells_3 ?_
    refine z_istore_n (lv' := [(0, .ref (X.2.2 a0)), (1, .int a1), (2, .int a2), (3, .int (f_X4_ofThing M a0 a1 0))]) S [1, 2, 3, 0] dX4_swapCells_6 rfl (by decide) rfl ?_
    refine z_aload_n S dX4_swapCells_7 rfl 0 rfl ?_
    refine z_iload_n S dX4_swapCells_8 rfl 1 rfl ?_
    refine z_iconst (v := 0) S dX4_swapCells_9 (by decide) ?_
    refine z_aload_n S dX4_swapCells_10 rfl 0 rfl ?_
    refine z_iload_n S dX4_swapCells_11 rfl 2 rfl ?_
    refine z_iconst (v := 0) S dX4_swapCells_12 (by decide) ?_
    refine z_cVI (As := [.int a2, .int 0]) S cv_RX4_57 (K_X4_ofThing h_a0 rfl) h_a0 (by decide) (q := (RX4, TX4, 10)) rfl rfl ⟨rfl, rfl⟩ ⟨Nat.le_of_ble_eq_true rfl, Nat.le_of_ble_eq_true rfl⟩ ⟨Nat.le_refl _, Nat.le_refl _⟩ rfl rfl (Nat.le_of_ble_eq_true rfl) dX4_swapCells_13 ?_
    obtain ⟨M1, h9, he⟩ := bnd he
    refine z_cVV (As := [.int a1, .int 0, .int (f_X4_ofThing M a0 a2 0)]) S cv_RX4_61 (K_X4_setThing h_a0 (Option.some.inj h9)) h_a0 (by decide) (q := (RX4, TX4, 10)) rfl rfl ⟨rfl, rfl⟩ ⟨Nat.le_of_ble_eq_true rfl, Nat.le_of_ble_eq_true rfl⟩ ⟨Nat.le_refl _, Nat.le_refl _⟩ rfl rfl (Nat.le_of_ble_eq_true rfl) dX4_swapCells_16 ?_
    refine z_aload_n S dX4_swapCells_19 rfl 0 rfl ?_
    refine z_iload_n S dX4_swapCells_20 rfl 2 rfl ?_
    refine z_iconst (v := 0) S dX4_swapCells_21 (by decide) ?_
    refine z_iload_n S dX4_swapCells_22 rfl 3 rfl ?_
    obtain ⟨M2, h9, he⟩ := bnd he
    refine z_cVV (As := [.int a2, .int 0, .int (f_X4_ofThing M a0 a1 0)]) S cv_RX4_61 (K_X4_setThing h_a0 (Option.some.inj h9)) h_a0 (by decide) (q := (RX4, TX4, 10)) rfl rfl ⟨rfl, rfl⟩ ⟨Nat.le_of_ble_eq_true rfl, Nat.le_of_ble_eq_true rfl⟩ ⟨Nat.le_refl _, Nat.le_refl _⟩ rfl rfl (Nat.le_of_ble_eq_true rfl) dX4_swapCells_23 ?_
    exact z_vret S (Option.some.inj he) dX4_swapCells_26
set_option maxRecDepth 100000 in
set_option maxHeartbeats 4000000 in
theorem p_X4_swapVisitors_L2 {X : Cx} {p : Program} {l : Launch} {e : Env} {s : State} {m : MethodId} {args : Array Value} {below : List Frame} {meth : Method} {c : Code} (S : SB X 0 p s m args meth c cX4_swapVisitors 5 none RX4) {M : Mm} {N : Mm} {v0 : Nat} {v1 : Int32} {v2 : Int32} {v3 : Int32} {x : (Mm × Int32) ⊕ Mm} (h_v0 : OK 0 v0 4) (he : f_X4_swapVisitors_L2 M v0 v1 v2 v3 = some x) (hc : ∀ b, x = .inl b → Z X 0 p l e rm_X4_swapVisitors s m args below meth c 0 0 (MQ below (QV X 0 N s.heap.size) args s 0 0 (AA X 0 s.heap.size)) 5 b.1 2 [(0, .ref (X.2.2 v0)), (1, .int v1), (2, .int v2), (3, .int b.2)] []) (hx : ∀ b, x = .inr b → Z X 0 p l e rm_X4_swapVisitors s m args below meth c 0 0 (MQ below (QV X 0 N s.heap.size) args s 0 0 (AA X 0 s.heap.size)) 5 b 41 [] []) : Z X 0 p l e rm_X4_swapVisitors s m args below meth c 0 0 (MQ below (QV X 0 N s.heap.size) args s 0 0 (AA X 0 s.heap.size)) 5 M 2 [(0, .ref (X.2.2 v0)), (1, .int v1), (2, .int v2), (3, .int v3)] [] := by
  unfold f_X4_swapVisitors_L2 at he
  refine z_iload_n S dX4_swapVisitors_2 rfl 3 rfl ?_
  refine z_iconst (v := 5) S dX4_swapVisitors_3 (by decide) ?_
  refine z_icmp_ge (tgt := 41) S he dX4_swapVisitors_4 (by decide) (fun he => ?_) (fun he => ?_)
  · refine z_lv (ks := []) rfl ?_
    exact hx _ (Option.some.inj he).symm
  · refine z_aload_n S dX4_swapVisitors_7 rfl 0 rfl ?_
    refine z_iload_n S dX4_swapVisitors_8 rfl 1 rfl ?_
    refine z_iload_n S dX4_swapVisitors_9 rfl 3 rfl ?_
    refine z_cVI (As := [.int v1, .int v3]) S cv_RX4_65 (K_X4_ofVisitor h_v0 rfl) h_v0 (by decide) (q := (RX4, TX4, 10)) rfl rfl ⟨rfl, rfl⟩ ⟨Nat.le_of_ble_eq_true rfl, Nat.le_of_ble_eq_true rfl⟩ ⟨Nat.le_refl _, Nat.le_refl _⟩ rfl rfl (Nat.le_of_ble_eq_true rfl) dX4_swapVisitors_10 ?_
    obtain ⟨x1, ex1, he⟩ := bnd he
    rw [Option.some.inj ex1]
    refine z_istore (lv' := [(0, .ref (X.2.2 v0)), (1, .int v1), (2, .int v2), (3, .int v3), (4, .int x1)]) S [1, 2, 3, 4, 0] dX4_swapVisitors_13 (by decide) rfl ?_
    refine z_aload_n S dX4_swapVisitors_15 rfl 0 rfl ?_
    refine z_iload_n S dX4_swapVisitors_16 rfl 1 rfl ?_
    refine z_iload_n S dX4_swapVisitors_17 rfl 3 rfl ?_
    refine z_aload_n S dX4_swapVisitors_18 rfl 0 rfl ?_
    refine z_iload_n S dX4_swapVisitors_19 rfl 2 rfl ?_
    refine z_iload_n S dX4_swapVisitors_20 rfl 3 rfl ?_
    refine z_cVI (As := [.int v2, .int v3]) S cv_RX4_65 (K_X4_ofVisitor h_v0 rfl) h_v0 (by decide) (q := (RX4, TX4, 10)) rfl rfl ⟨rfl, rfl⟩ ⟨Nat.le_of_ble_eq_true rfl, Nat.le_of_ble_eq_true rfl⟩ ⟨Nat.le_refl _, Nat.le_refl _⟩ rfl rfl (Nat.le_of_ble_eq_true rfl) dX4_swapVisitors_21 ?_
    obtain ⟨M2, h9, he⟩ := bnd he
    refine z_cVV (As := [.int v1, .int v3, .int (f_X4_ofVisitor M v0 v2 v3)]) S cv_RX4_68 (K_X4_setVisitor h_v0 (Option.some.inj h9)) h_v0 (by decide) (q := (RX4, TX4, 10)) rfl rfl ⟨rfl, rfl⟩ ⟨Nat.le_of_ble_eq_true rfl, Nat.le_of_ble_eq_true rfl⟩ ⟨Nat.le_refl _, Nat.le_refl _⟩ rfl rfl (Nat.le_of_ble_eq_true rfl) dX4_swapVisitors_24 ?_
    refine z_aload_n S dX4_swapVisitors_27 rfl 0 rfl ?_
    refine z_iload_n S dX4_swapVisitors_28 rfl 2 rfl ?_
    refine z_iload_n S dX4_swapVisitors_29 rfl 3 rfl ?_
    refine z_iload S dX4_swapVisitors_30 4 rfl ?_
    obtain ⟨M3, h9, he⟩ := bnd he
    refine z_cVV (As := [.int v2, .int v3, .int x1]) S cv_RX4_68 (K_X4_setVisitor h_v0 (Option.some.inj h9)) h_v0 (by decide) (q := (RX4, TX4, 10)) rfl rfl ⟨rfl, rfl⟩ ⟨Nat.le_of_ble_eq_true rfl, Nat.le_of_ble_eq_true rfl⟩ ⟨Nat.le_refl _, Nat.le_refl _⟩ rfl rfl (Nat.le_of_ble_eq_true rfl) dX4_swapVisitors_32 ?_
    refine z_iinc (v := (v3 + 1)) (lv' := [(0, .ref (X.2.2 v0)), (1, .int v1), (2, .int v2), (3, .int (v3 + 1)), (4, .int x1)]) S [1, 2, 3, 0, 4] 3 dX4_swapVisitors_35 rfl (by rfl) (by decide) rfl ?_
    refine z_goto (tgt := 2) S dX4_swapVisitors_38 (by decide) ?_
    refine z_lv (ks := [0, 1, 2, 3]) rfl ?_
    exact hc _ (Option.some.inj he).symm
set_option maxRecDepth 100000 in
set_option maxHeartbeats 4000000 in
theorem K_X4_swapVisitors {X : Cx} {l : Launch} {M : Mm} {a0 : Nat} {a1 : Int32} {a2 : Int32} {N : Mm} (h_a0 : OK 0 a0 4) (he : f_X4_swapVisitors M a0 a1 a2 = some N) : KV X 0 l yX4_swapVisitors (wz yX4_swapVisitors cX4_swapVisitors 5 none) rm_X4_swapVisitors [.ref (X.2.2 a0), .int a1, .int a2] M N := by
  intro sz
  refine K_of (Qc := (fun sz => QV X 0 N sz)) (own := RX4) (lv0 := [(0, .ref (X.2.2 a0)), (1, .int a1), (2, .int a2)]) (by decide +kernel) rfl (Nat.le_of_ble_eq_true rfl) rfl (fun p e s m args below meth c S => ?_) sz
  · unfold f_X4_swapVisitors at he
    refine z_iconst (v := 0) S dX4_swapVisitors_0 (by decide) ?_
    refine z_istore_n (lv' := [(0, .ref (X.2.2 a0)), (1, .int a1), (2, .int a2), (3, .int 0)]) S [1, 2, 3, 0] dX4_swapVisitors_1 rfl (by decide) rfl ?_
    obtain ⟨e_4, hl, he⟩ := bnd he
    have hX : Z X 0 p l e rm_X4_swapVisitors s m args below meth c 0 0 (MQ below (QV X 0 N s.heap.size) args s 0 0 (AA X 0 s.heap.size)) 5 e_4 41 [] [] := by
      exact z_vret S (Option.some.inj he) dX4_swapVisitors_41
    exact loopZ (Zh := (fun a_4 => Z X 0 p l e rm_X4_swapVisitors s m args below meth c 0 0 (MQ below (QV X 0 N s.heap.size) args s 0 0 (AA X 0 s.heap.size)) 5 a_4.1 2 [(0, .ref (X.2.2 a0)), (1, .int a1), (2, .int a2), (3, .int a_4.2)] [])) (fun a_4 x hb hc hr => p_X4_swapVisitors_L2 S h_a0 hb hc (fun b hxe => by rw [hr b hxe]; exact hX)) FU _ hl
set_option maxRecDepth 100000 in
set_option maxHeartbeats 4000000 in
theorem p_X4_timesLed_L5 {X : Cx} {p : Program} {l : Launch} {e : Env} {s : State} {m : MethodId} {args : Array Value} {below : List Frame} {meth : Method} {c : Code} (S : SB X 0 p s m args meth c cX4_timesLed 5 (some .int) RX4) {M : Mm} {r : Int32} {v0 : Nat} {v1 : Int32} {v2 : Int32} {v3 : Int32} {v4 : Int32} {x : (Int32 × Int32) ⊕ Int32} (h_v0 : OK 0 v0 4) (he : f_X4_timesLed_L5 M v0 v1 v2 v3 v4 = some x) (hc : ∀ b, x = .inl b → Z X 0 p l e rm_X4_timesLed s m args below meth c 0 0 (MQ below (QI X 0 r M s.heap.size) args s 0 0 (AA X 0 s.heap.size)) 5 M 5 [(0, .ref (X.2.2 v0)), (1, .int v1), (2, .int v2), (3, .int b.1), (4, .int b.2)] []) (hx : ∀ b, x = .inr b → Z X 0 p l e rm_X4_timesLed s m args below meth c 0 0 (MQ below (QI X 0 r M s.heap.size) args s 0 0 (AA X 0 s.heap.size)) 5 M 45 [(3, .int b)] []) : Z X 0 p l e rm_X4_timesLed s m args below meth c 0 0 (MQ below (QI X 0 r M s.heap.size) args s 0 0 (AA X 0 s.heap.size)) 5 M 5 [(0, .ref (X.2.2 v0)), (1, .int v1), (2, .int v2), (3, .int v3), (4, .int v4)] [] := by
  unfold f_X4_timesLed_L5 at he
  refine z_iload S dX4_timesLed_5 4 rfl ?_
  refine z_aload_n S dX4_timesLed_7 rfl 0 rfl ?_
  refine z_cVI (As := []) S cv_RX4_81 (K_X4_logRows h_v0 rfl) h_v0 (by decide) (q := (RX4, TX4, 10)) rfl rfl ⟨rfl, rfl⟩ ⟨Nat.le_of_ble_eq_true rfl, Nat.le_of_ble_eq_true rfl⟩ ⟨Nat.le_refl _, Nat.le_refl _⟩ rfl rfl (Nat.le_of_ble_eq_true rfl) dX4_timesLed_8 ?_
  refine z_icmp_ge (tgt := 45) S he dX4_timesLed_11 (by decide) (fun he => ?_) (fun he => ?_)
  · refine z_lv (ks := [3]) rfl ?_
    exact hx _ (Option.some.inj he).symm
  · refine z_aload_n S dX4_timesLed_14 rfl 0 rfl ?_
    refine z_iload S dX4_timesLed_15 4 rfl ?_
    refine z_iconst (v := 1) S dX4_timesLed_17 (by decide) ?_
    refine z_cVI (As := [.int v4, .int 1]) S cv_RX4_85 (K_X4_logged h_v0 rfl) h_v0 (by decide) (q := (RX4, TX4, 10)) rfl rfl ⟨rfl, rfl⟩ ⟨Nat.le_of_ble_eq_true rfl, Nat.le_of_ble_eq_true rfl⟩ ⟨Nat.le_refl _, Nat.le_refl _⟩ rfl rfl (Nat.le_of_ble_eq_true rfl) dX4_timesLed_18 ?_
    refine z_iload_n S dX4_timesLed_21 rfl 1 rfl ?_
    refine z_icmp_ne (tgt := 39) S he dX4_timesLed_22 (by decide) (fun he => ?_) (fun he => ?_)
    · refine z_iinc (v := (v4 + 1)) (lv' := [(0, .ref (X.2.2 v0)), (1, .int v1), (2, .int v2), (3, .int v3), (4, .int (v4 + 1))]) S [1, 2, 3, 4, 0] 4 dX4_timesLed_39 rfl (by rfl) (by decide) rfl ?_
      refine z_goto (tgt := 5) S dX4_timesLed_42 (by decide) ?_
      refine z_lv (ks := [0, 1, 2, 3, 4]) rfl ?_
      exact hc _ (Option.some.inj he).symm
    · refine z_aload_n S dX4_timesLed_25 rfl 0 rfl ?_
      refine z_iload S dX4_timesLed_26 4 rfl ?_
      refine z_iconst (v := 2) S dX4_timesLed_28 (by decide) ?_
      refine z_cVI (As := [.int v4, .int 2]) S cv_RX4_85 (K_X4_logged h_v0 rfl) h_v0 (by decide) (q := (RX4, TX4, 10)) rfl rfl ⟨rfl, rfl⟩ ⟨Nat.le_of_ble_eq_true rfl, Nat.le_of_ble_eq_true rfl⟩ ⟨Nat.le_refl _, Nat.le_refl _⟩ rfl rfl (Nat.le_of_ble_eq_true rfl) dX4_timesLed_29 ?_
      refine z_iload_n S dX4_timesLed_32 rfl 2 rfl ?_
      refine z_icmp_ne (tgt := 39) S he dX4_timesLed_33 (by decide) (fun he => ?_) (fun he => ?_)
      · refine z_iinc (v := (v4 + 1)) (lv' := [(0, .ref (X.2.2 v0)), (1, .int v1), (2, .int v2), (3, .int v3), (4, .int (v4 + 1))]) S [1, 2, 3, 4, 0] 4 dX4_timesLed_39 rfl (by rfl) (by decide) rfl ?_
        refine z_goto (tgt := 5) S dX4_timesLed_42 (by decide) ?_
        refine z_lv (ks := [0, 1, 2, 3, 4]) rfl ?_
        exact hc _ (Option.some.inj he).symm
      · refine z_iinc (v := (v3 + 1)) (lv' := [(0, .ref (X.2.2 v0)), (1, .int v1), (2, .int v2), (3, .int (v3 + 1)), (4, .int v4)]) S [1, 2, 3, 0, 4] 3 dX4_timesLed_36 rfl (by rfl) (by decide) rfl ?_
        refine z_iinc (v := (v4 + 1)) (lv' := [(0, .ref (X.2.2 v0)), (1, .int v1), (2, .int v2), (3, .int (v3 + 1)), (4, .int (v4 + 1))]) S [1, 2, 3, 4, 0] 4 dX4_timesLed_39 rfl (by rfl) (by decide) rfl ?_
        refine z_goto (tgt := 5) S dX4_timesLed_42 (by decide) ?_
        refine z_lv (ks := [0, 1, 2, 3, 4]) rfl ?_
        exact hc _ (Option.some.inj he).symm
set_option maxRecDepth 100000 in
set_option maxHeartbeats 4000000 in
theorem K_X4_timesLed {X : Cx} {l : Launch} {M : Mm} {a0 : Nat} {a1 : Int32} {a2 : Int32} {r : Int32} (h_a0 : OK 0 a0 4) (he : f_X4_timesLed M a0 a1 a2 = some r) : KI X 0 l yX4_timesLed (wz yX4_timesLed cX4_timesLed 5 (some .int)) rm_X4_timesLed [.ref (X.2.2 a0), .int a1, .int a2] M r M := by
  intro sz
  refine K_of (Qc := (fun sz => QI X 0 r M sz)) (own := RX4) (lv0 := [(0, .ref (X.2.2 a0)), (1, .int a1), (2, .int a2)]) (by decide +kernel) rfl (Nat.le_of_ble_eq_true rfl) rfl (fun p e s m args below meth c S => ?_) sz
  · unfold f_X4_timesLed at he
    refine z_iconst (v := 0) S dX4_timesLed_0 (by decide) ?_
    refine z_istore_n (lv' := [(0, .ref (X.2.2 a0)), (1, .int a1), (2, .int a2), (3, .int 0)]) S [1, 2, 3, 0] dX4_timesLed_1 rfl (by decide) rfl ?_
    refine z_iconst (v := 0) S dX4_timesLed_2 (by decide) ?_
    refine z_istore (lv' := [(0, .ref (X.2.2 a0)), (1, .int a1), (2, .int a2), (3, .int 0), (4, .int 0)]) S [1, 2, 3, 4, 0] dX4_timesLed_3 (by decide) rfl ?_
    obtain ⟨e_1, hl, he⟩ := bnd he
    have hX : Z X 0 p l e rm_X4_timesLed s m args below meth c 0 0 (MQ below (QI X 0 r M s.heap.size) args s 0 0 (AA X 0 s.heap.size)) 5 M 45 [(3, .int e_1)] [] := by
      refine z_iload_n S dX4_timesLed_45 rfl 0 rfl ?_
      exact z_iret S (⟨Option.some.inj he, rfl⟩) dX4_timesLed_46
    exact loopZ (Zh := (fun a_1 => Z X 0 p l e rm_X4_timesLed s m args below meth c 0 0 (MQ below (QI X 0 r M s.heap.size) args s 0 0 (AA X 0 s.heap.size)) 5 M 5 [(0, .ref (X.2.2 a0)), (1, .int a1), (2, .int a2), (3, .int a_1.1), (4, .int a_1.2)] [])) (fun a_1 x hb hc hr => p_X4_timesLed_L5 S h_a0 hb hc (fun b hxe => by rw [hr b hxe]; exact hX)) FU _ hl
set_option maxRecDepth 100000 in
set_option maxHeartbeats 4000000 in
theorem p_X5_tooMany_L4 {X : Cx} {p : Program} {l : Launch} {e : Env} {s : State} {m : MethodId} {args : Array Value} {below : List Frame} {meth : Method} {c : Code} (S : SB X 0 p s m args meth c cX5_tooMany 4 (some .boolean) RX5) {M : Mm} {r : Bool} {v1 : Int32} {v2 : Int32} {v3 : Int32} {x : (Int32 × Int32) ⊕ Int32}  (he : f_X5_tooMany_L4 M v1 v2 v3 = some x) (hc : ∀ b, x = .inl b → Z X 0 p l e rm_X5_tooMany s m args below meth c 0 0 (MQ below (QI X 0 (bI r) M s.heap.size) args s 0 0 (AA X 0 s.heap.size)) 4 M 4 [(0, .ref (X.2.2 87)), (1, .int v1), (2, .int b.1), (3, .int b.2)] []) (hx : ∀ b, x = .inr b → Z X 0 p l e rm_X5_tooMany s m args below meth c 0 0 (MQ below (QI X 0 (bI r) M s.heap.size) args s 0 0 (AA X 0 s.heap.size)) 4 M 42 [(1, .int v1), (2, .int b)] []) : Z X 0 p l e rm_X5_tooMany s m args below meth c 0 0 (MQ below (QI X 0 (bI r) M s.heap.size) args s 0 0 (AA X 0 s.heap.size)) 4 M 4 [(0, .ref (X.2.2 87)), (1, .int v1), (2, .int v2), (3, .int v3)] [] := by
  unfold f_X5_tooMany_L4 at he
  refine z_iload_n S dX5_tooMany_4 rfl 3 rfl ?_
  refine z_aload_n S dX5_tooMany_5 rfl 0 rfl ?_
  refine z_getI S fo_RX5_24 rfl ok_87 dX5_tooMany_6 ?_
  refine z_icmp_ge (tgt := 42) S he dX5_tooMany_9 (by decide) (fun he => ?_) (fun he => ?_)
  · refine z_lv (ks := [1, 2]) rfl ?_
    exact hx _ (Option.some.inj he).symm
  · refine z_aload_n S dX5_tooMany_12 rfl 0 rfl ?_
    refine z_getF (j := 88) S fo_RX5_9 1 rfl rfl ok_87 dX5_tooMany_13 ?_
    refine z_iload_n S dX5_tooMany_16 rfl 3 rfl ?_
    refine z_cNI (As := [.ref (X.2.2 88), .int v3]) S cn_RX5_35 (Kt_X9_at ok_88 rfl) ⟨rfl, rfl⟩ ⟨Nat.le_of_ble_eq_true rfl, Nat.le_of_ble_eq_true rfl⟩ ⟨Nat.le_refl _, Nat.le_refl _⟩ rfl rfl (Nat.le_of_ble_eq_true rfl) dX5_tooMany_17 ?_
    refine z_iload_n S dX5_tooMany_20 rfl 1 rfl ?_
    refine z_iand S dX5_tooMany_21 ?_
    refine z_if_eq (tgt := 36) S he dX5_tooMany_22 (by decide) (fun he => ?_) (fun he => ?_)
    · refine z_iinc (v := (v3 + 1)) (lv' := [(0, .ref (X.2.2 87)), (1, .int v1), (2, .int v2), (3, .int (v3 + 1))]) S [1, 2, 3, 0] 3 dX5_tooMany_36 rfl (by rfl) (by decide) rfl ?_
      refine z_goto (tgt := 4) S dX5_tooMany_39 (by decide) ?_
      refine z_lv (ks := [0, 1, 2, 3]) rfl ?_
      exact hc _ (Option.some.inj he).symm
    · refine z_iload_n S dX5_tooMany_25 rfl 2 rfl ?_
      refine z_aload_n S dX5_tooMany_26 rfl 0 rfl ?_
      refine z_getF (j := 89) S fo_RX5_15 2 rfl rfl ok_87 dX5_tooMany_27 ?_
      refine z_iload_n S dX5_tooMany_30 rfl 3 rfl ?_
      refine z_cNI (As := [.ref (X.2.2 89), .int v3]) S cn_RX5_35 (Kt_X9_at ok_89 rfl) ⟨rfl, rfl⟩ ⟨Nat.le_of_ble_eq_true rfl, Nat.le_of_ble_eq_true rfl⟩ ⟨Nat.le_refl _, Nat.le_refl _⟩ rfl rfl (Nat.le_of_ble_eq_true rfl) dX5_tooMany_31 ?_
      refine z_iadd S dX5_tooMany_34 ?_
      refine z_istore_n (lv' := [(0, .ref (X.2.2 87)), (1, .int v1), (2, .int (v2 + (t_X9_at M 89 v3))), (3, .int v3)]) S [1, 2, 0, 3] dX5_tooMany_35 rfl (by decide) rfl ?_
      refine z_iinc (v := (v3 + 1)) (lv' := [(0, .ref (X.2.2 87)), (1, .int v1), (2, .int (v2 + (t_X9_at M 89 v3))), (3, .int (v3 + 1))]) S [1, 2, 3, 0] 3 dX5_tooMany_36 rfl (by rfl) (by decide) rfl ?_
      refine z_goto (tgt := 4) S dX5_tooMany_39 (by decide) ?_
      refine z_lv (ks := [0, 1, 2, 3]) rfl ?_
      exact hc _ (Option.some.inj he).symm
set_option maxRecDepth 100000 in
set_option maxHeartbeats 4000000 in
theorem K_X5_tooMany {X : Cx} {l : Launch} {M : Mm} {a1 : Int32} {r : Bool}  (he : f_X5_tooMany M a1 = some r) : KI X 0 l yX5_tooMany (wz yX5_tooMany cX5_tooMany 4 (some .boolean)) rm_X5_tooMany [.ref (X.2.2 87), .int a1] M (bI r) M := by
  intro sz
  refine K_of (Qc := (fun sz => QI X 0 (bI r) M sz)) (own := RX5) (lv0 := [(0, .ref (X.2.2 87)), (1, .int a1)]) (by decide +kernel) rfl (Nat.le_of_ble_eq_true rfl) rfl (fun p e s m args below meth c S => ?_) sz
  · unfold f_X5_tooMany at he
    refine z_iconst (v := 0) S dX5_tooMany_0 (by decide) ?_
    refine z_istore_n (lv' := [(0, .ref (X.2.2 87)), (1, .int a1), (2, .int 0)]) S [1, 2, 0] dX5_tooMany_1 rfl (by decide) rfl ?_
    refine z_iconst (v := 0) S dX5_tooMany_2 (by decide) ?_
    refine z_istore_n (lv' := [(0, .ref (X.2.2 87)), (1, .int a1), (2, .int 0), (3, .int 0)]) S [1, 2, 3, 0] dX5_tooMany_3 rfl (by decide) rfl ?_
    obtain ⟨e_1, hl, he⟩ := bnd he
    have hX : Z X 0 p l e rm_X5_tooMany s m args below meth c 0 0 (MQ below (QI X 0 (bI r) M s.heap.size) args s 0 0 (AA X 0 s.heap.size)) 4 M 42 [(1, .int a1), (2, .int e_1)] [] := by
      refine z_iload_n S dX5_tooMany_42 rfl 0 rfl ?_
      obtain ⟨r2, h9, he⟩ := bnd he
      refine z_cSI (As := [.int a1]) S cs_RX5_47 (K_J6_bitCount_0f7a4  h9) ⟨rfl, rfl⟩ ⟨Nat.le_of_ble_eq_true rfl, Nat.le_of_ble_eq_true rfl⟩ ⟨Nat.le_refl _, Nat.le_refl _⟩ rfl rfl (Nat.le_of_ble_eq_true rfl) dX5_tooMany_43 ?_
      refine z_iload_n S dX5_tooMany_46 rfl 1 rfl ?_
      refine z_icmp_le (tgt := 54) S he dX5_tooMany_47 (by decide) (fun he => ?_) (fun he => ?_)
      · refine z_iconst (v := 0) S dX5_tooMany_54 (by decide) ?_
        exact z_zret0 S (⟨Option.some.inj he, rfl⟩) dX5_tooMany_55
      · refine z_iconst (v := 1) S dX5_tooMany_50 (by decide) ?_
        refine z_goto (tgt := 55) S dX5_tooMany_51 (by decide) ?_
        exact z_zret1 S (⟨Option.some.inj he, rfl⟩) dX5_tooMany_55
    exact loopZ (Zh := (fun a_1 => Z X 0 p l e rm_X5_tooMany s m args below meth c 0 0 (MQ below (QI X 0 (bI r) M s.heap.size) args s 0 0 (AA X 0 s.heap.size)) 4 M 4 [(0, .ref (X.2.2 87)), (1, .int a1), (2, .int a_1.1), (3, .int a_1.2)] [])) (fun a_1 x hb hc hr => p_X5_tooMany_L4 S  hb hc (fun b hxe => by rw [hr b hxe]; exact hX)) FU _ hl
set_option maxRecDepth 100000 in
set_option maxHeartbeats 4000000 in
theorem p_X5_anyTooMany_L4 {X : Cx} {p : Program} {l : Launch} {e : Env} {s : State} {m : MethodId} {args : Array Value} {below : List Frame} {meth : Method} {c : Code} (S : SB X 0 p s m args meth c cX5_anyTooMany 4 (some .boolean) RX5) {M : Mm} {r : Bool} {v1 : Int32} {v3 : Int32} {x : Int32 ⊕ ((Bool) ⊕ Unit)}  (he : f_X5_anyTooMany_L4 M v1 v3 = some x) (hc : ∀ b, x = .inl b → Z X 0 p l e rm_X5_anyTooMany s m args below meth c 0 0 (MQ below (QI X 0 (bI r) M s.heap.size) args s 0 0 (AA X 0 s.heap.size)) 4 M 4 [(0, .ref (X.2.2 87)), (1, .int v1), (3, .int b)] []) (hx : ∀ b, x = .inr (.inr b) → Z X 0 p l e rm_X5_anyTooMany s m args below meth c 0 0 (MQ below (QI X 0 (bI r) M s.heap.size) args s 0 0 (AA X 0 s.heap.size)) 4 M 33 [] []) (hr : ∀ v, x = .inr (.inl v) → v = r) : Z X 0 p l e rm_X5_anyTooMany s m args below meth c 0 0 (MQ below (QI X 0 (bI r) M s.heap.size) args s 0 0 (AA X 0 s.heap.size)) 4 M 4 [(0, .ref (X.2.2 87)), (1, .int v1), (3, .int v3)] [] := by
  unfold f_X5_anyTooMany_L4 at he
  refine z_iload_n S dX5_anyTooMany_4 rfl 2 rfl ?_
  refine z_iload_n S dX5_anyTooMany_5 rfl 1 rfl ?_
  refine z_icmp_gt (tgt := 33) S he dX5_anyTooMany_6 (by decide) (fun he => ?_) (fun he => ?_)
  · refine z_lv (ks := []) rfl ?_
    exact hx _ (Option.some.inj he).symm
  · refine z_iload_n S dX5_anyTooMany_9 rfl 2 rfl ?_
    refine z_iload_n S dX5_anyTooMany_10 rfl 1 rfl ?_
    refine z_iconst (v := (-1)) S dX5_anyTooMany_11 (by decide) ?_
    refine z_ixor S dX5_anyTooMany_12 ?_
    refine z_iand S dX5_anyTooMany_13 ?_
    refine z_if_ne (tgt := 27) S he dX5_anyTooMany_14 (by decide) (fun he => ?_) (fun he => ?_)
    · refine z_iinc (v := (v3 + 1)) (lv' := [(0, .ref (X.2.2 87)), (1, .int v1), (3, .int (v3 + 1))]) S [1, 2, 0] 2 dX5_anyTooMany_27 rfl (by rfl) (by decide) rfl ?_
      refine z_goto (tgt := 4) S dX5_anyTooMany_30 (by decide) ?_
      refine z_lv (ks := [0, 1, 2]) rfl ?_
      exact hc _ (Option.some.inj he).symm
    · refine z_aload_n S dX5_anyTooMany_17 rfl 0 rfl ?_
      refine z_iload_n S dX5_anyTooMany_18 rfl 2 rfl ?_
      obtain ⟨r1, h9, he⟩ := bnd he
      refine z_cVI (As := [.int v3]) S cv_RX5_53 (K_X5_tooMany  h9) ok_87 (by decide) (q := (RX5, TX5, 5)) rfl rfl ⟨rfl, rfl⟩ ⟨Nat.le_of_ble_eq_true rfl, Nat.le_of_ble_eq_true rfl⟩ ⟨Nat.le_refl _, Nat.le_refl _⟩ rfl rfl (Nat.le_of_ble_eq_true rfl) dX5_anyTooMany_19 ?_
      refine z_ifb_eq (tgt := 27) S he dX5_anyTooMany_22 (by decide) (fun he => ?_) (fun he => ?_)
      · refine z_iinc (v := (v3 + 1)) (lv' := [(0, .ref (X.2.2 87)), (1, .int v1), (3, .int (v3 + 1))]) S [1, 2, 0] 2 dX5_anyTooMany_27 rfl (by rfl) (by decide) rfl ?_
        refine z_goto (tgt := 4) S dX5_anyTooMany_30 (by decide) ?_
        refine z_lv (ks := [0, 1, 2]) rfl ?_
        exact hc _ (Option.some.inj he).symm
      · refine z_iconst (v := 1) S dX5_anyTooMany_25 (by decide) ?_
        exact z_zret1 S (⟨hr _ (Option.some.inj he).symm, rfl⟩) dX5_anyTooMany_26
set_option maxRecDepth 100000 in
set_option maxHeartbeats 4000000 in
theorem K_X5_anyTooMany {X : Cx} {l : Launch} {M : Mm} {a1 : Int32} {a2 : Int32} {r : Bool}  (he : f_X5_anyTooMany M a1 a2 = some r) : KI X 0 l yX5_anyTooMany (wz yX5_anyTooMany cX5_anyTooMany 4 (some .boolean)) rm_X5_anyTooMany [.ref (X.2.2 87), .int a1, .int a2] M (bI r) M := by
  intro sz
  refine K_of (Qc := (fun sz => QI X 0 (bI r) M sz)) (own := RX5) (lv0 := [(0, .ref (X.2.2 87)), (1, .int a1), (2, .int a2)]) (by decide +kernel) rfl (Nat.le_of_ble_eq_true rfl) rfl (fun p e s m args below meth c S => ?_) sz
  · unfold f_X5_anyTooMany at he
    refine z_iconst (v := 1) S dX5_anyTooMany_0 (by decide) ?_
    refine z_iload_n S dX5_anyTooMany_1 rfl 2 rfl ?_
    refine z_ishl S dX5_anyTooMany_2 ?_
    refine z_istore_n (lv' := [(0, .ref (X.2.2 87)), (1, .int a1), (3, .int (1 <<< (a2 &&& 31)))]) S [1, 2, 0] dX5_anyTooMany_3 rfl (by decide) rfl ?_
    obtain ⟨r9, hl, hr1, hr2⟩ := bndS he
    have hX : ∀ e_2, r9 = .inr e_2 → Z X 0 p l e rm_X5_anyTooMany s m args below meth c 0 0 (MQ below (QI X 0 (bI r) M s.heap.size) args s 0 0 (AA X 0 s.heap.size)) 4 M 33 [] [] := by
      intro e_2 hre
      have he := hr2 e_2 hre
      refine z_iconst (v := 0) S dX5_anyTooMany_33 (by decide) ?_
      exact z_zret0 S (⟨Option.some.inj he, rfl⟩) dX5_anyTooMany_34
    exact loopZ (Zh := (fun a_2 => Z X 0 p l e rm_X5_anyTooMany s m args below meth c 0 0 (MQ below (QI X 0 (bI r) M s.heap.size) args s 0 0 (AA X 0 s.heap.size)) 4 M 4 [(0, .ref (X.2.2 87)), (1, .int a1), (3, .int a_2)] [])) (fun a_2 x hb hc hr9 => p_X5_anyTooMany_L4 S  hb hc (fun b hxe => hX b (hr9 _ hxe).symm) (fun v hxv => Option.some.inj (hr1 v (hr9 _ hxv).symm))) FU _ hl
set_option maxRecDepth 100000 in
set_option maxHeartbeats 4000000 in
theorem p_X5_ringAllFor_L2 {X : Cx} {p : Program} {l : Launch} {e : Env} {s : State} {m : MethodId} {args : Array Value} {below : List Frame} {meth : Method} {c : Code} (S : SB X 0 p s m args meth c cX5_ringAllFor 4 (some .boolean) RX5) {M : Mm} {r : Bool} {v1 : Int32} {v2 : Int32} {x : Int32 ⊕ ((Bool) ⊕ Unit)}  (he : f_X5_ringAllFor_L2 M v1 v2 = some x) (hc : ∀ b, x = .inl b → Z X 0 p l e rm_X5_ringAllFor s m args below meth c 0 0 (MQ below (QI X 0 (bI r) M s.heap.size) args s 0 0 (AA X 0 s.heap.size)) 4 M 2 [(0, .ref (X.2.2 87)), (1, .int v1), (2, .int b)] []) (hx : ∀ b, x = .inr (.inr b) → Z X 0 p l e rm_X5_ringAllFor s m args below meth c 0 0 (MQ below (QI X 0 (bI r) M s.heap.size) args s 0 0 (AA X 0 s.heap.size)) 4 M 37 [] []) (hr : ∀ v, x = .inr (.inl v) → v = r) : Z X 0 p l e rm_X5_ringAllFor s m args below meth c 0 0 (MQ below (QI X 0 (bI r) M s.heap.size) args s 0 0 (AA X 0 s.heap.size)) 4 M 2 [(0, .ref (X.2.2 87)), (1, .int v1), (2, .int v2)] [] := by
  unfold f_X5_ringAllFor_L2 at he
  refine z_iload_n S dX5_ringAllFor_2 rfl 2 rfl ?_
  refine z_aload_n S dX5_ringAllFor_3 rfl 0 rfl ?_
  refine z_getI S fo_RX5_24 rfl ok_87 dX5_ringAllFor_4 ?_
  refine z_icmp_ge (tgt := 37) S he dX5_ringAllFor_7 (by decide) (fun he => ?_) (fun he => ?_)
  · refine z_lv (ks := []) rfl ?_
    exact hx _ (Option.some.inj he).symm
  · refine z_aload_n S dX5_ringAllFor_10 rfl 0 rfl ?_
    refine z_getF (j := 88) S fo_RX5_9 1 rfl rfl ok_87 dX5_ringAllFor_11 ?_
    refine z_iload_n S dX5_ringAllFor_14 rfl 2 rfl ?_
    refine z_cNI (As := [.ref (X.2.2 88), .int v2]) S cn_RX5_35 (Kt_X9_at ok_88 rfl) ⟨rfl, rfl⟩ ⟨Nat.le_of_ble_eq_true rfl, Nat.le_of_ble_eq_true rfl⟩ ⟨Nat.le_refl _, Nat.le_refl _⟩ rfl rfl (Nat.le_of_ble_eq_true rfl) dX5_ringAllFor_15 ?_
    refine z_istore_n (lv' := [(0, .ref (X.2.2 87)), (1, .int v1), (2, .int v2), (3, .int (t_X9_at M 88 v2))]) S [1, 2, 3, 0] dX5_ringAllFor_18 rfl (by decide) rfl ?_
    refine z_iload_n S dX5_ringAllFor_19 rfl 3 rfl ?_
    refine z_if_eq (tgt := 31) S he dX5_ringAllFor_20 (by decide) (fun he => ?_) (fun he => ?_)
    · refine z_iinc (v := (v2 + 1)) (lv' := [(0, .ref (X.2.2 87)), (1, .int v1), (2, .int (v2 + 1)), (3, .int (t_X9_at M 88 v2))]) S [1, 2, 0, 3] 2 dX5_ringAllFor_31 rfl (by rfl) (by decide) rfl ?_
      refine z_goto (tgt := 2) S dX5_ringAllFor_34 (by decide) ?_
      refine z_lv (ks := [0, 1, 2]) rfl ?_
      exact hc _ (Option.some.inj he).symm
    · refine z_iload_n S dX5_ringAllFor_23 rfl 3 rfl ?_
      refine z_iload_n S dX5_ringAllFor_24 rfl 1 rfl ?_
      refine z_iand S dX5_ringAllFor_25 ?_
      refine z_if_ne (tgt := 31) S he dX5_ringAllFor_26 (by decide) (fun he => ?_) (fun he => ?_)
      · refine z_iinc (v := (v2 + 1)) (lv' := [(0, .ref (X.2.2 87)), (1, .int v1), (2, .int (v2 + 1)), (3, .int (t_X9_at M 88 v2))]) S [1, 2, 0, 3] 2 dX5_ringAllFor_31 rfl (by rfl) (by decide) rfl ?_
        refine z_goto (tgt := 2) S dX5_ringAllFor_34 (by decide) ?_
        refine z_lv (ks := [0, 1, 2]) rfl ?_
        exact hc _ (Option.some.inj he).symm
      · refine z_iconst (v := 0) S dX5_ringAllFor_29 (by decide) ?_
        exact z_zret0 S (⟨hr _ (Option.some.inj he).symm, rfl⟩) dX5_ringAllFor_30
set_option maxRecDepth 100000 in
set_option maxHeartbeats 4000000 in
theorem K_X5_ringAllFor {X : Cx} {l : Launch} {M : Mm} {a1 : Int32} {r : Bool}  (he : f_X5_ringAllFor M a1 = some r) : KI X 0 l yX5_ringAllFor (wz yX5_ringAllFor cX5_ringAllFor 4 (some .boolean)) rm_X5_ringAllFor [.ref (X.2.2 87), .int a1] M (bI r) M := by
  intro sz
  refine K_of (Qc := (fun sz => QI X 0 (bI r) M sz)) (own := RX5) (lv0 := [(0, .ref (X.2.2 87)), (1, .int a1)]) (by decide +kernel) rfl (Nat.le_of_ble_eq_true rfl) rfl (fun p e s m args below meth c S => ?_) sz
  · unfold f_X5_ringAllFor at he
    refine z_iconst (v := 0) S dX5_ringAllFor_0 (by decide) ?_
    refine z_istore_n (lv' := [(0, .ref (X.2.2 87)), (1, .int a1), (2, .int 0)]) S [1, 2, 0] dX5_ringAllFor_1 rfl (by decide) rfl ?_
    obtain ⟨r9, hl, hr1, hr2⟩ := bndS he
    have hX : ∀ e_1, r9 = .inr e_1 → Z X 0 p l e rm_X5_ringAllFor s m args below meth c 0 0 (MQ below (QI X 0 (bI r) M s.heap.size) args s 0 0 (AA X 0 s.heap.size)) 4 M 37 [] [] := by
      intro e_1 hre
      have he := hr2 e_1 hre
      refine z_iconst (v := 1) S dX5_ringAllFor_37 (by decide) ?_
      exact z_zret1 S (⟨Option.some.inj he, rfl⟩) dX5_ringAllFor_38
    exact loopZ (Zh := (fun a_1 => Z X 0 p l e rm_X5_ringAllFor s m args below meth c 0 0 (MQ below (QI X 0 (bI r) M s.heap.size) args s 0 0 (AA X 0 s.heap.size)) 4 M 2 [(0, .ref (X.2.2 87)), (1, .int a1), (2, .int a_1)] [])) (fun a_1 x hb hc hr9 => p_X5_ringAllFor_L2 S  hb hc (fun b hxe => hX b (hr9 _ hxe).symm) (fun v hxv => Option.some.inj (hr1 v (hr9 _ hxv).symm))) FU _ hl
set_option maxRecDepth 100000 in
set_option maxHeartbeats 4000000 in
theorem p_X5_fewestForAll_L9 {X : Cx} {p : Program} {l : Launch} {e : Env} {s : State} {m : MethodId} {args : Array Value} {below : List Frame} {meth : Method} {c : Code} (S : SB X 0 p s m args meth c cX5_fewestForAll 3 (some .int) RX5) {M : Mm} {r : Int32} {v1 : Int32} {v2 : Int32} {x : (Int32 × Int32) ⊕ Int32}  (he : f_X5_fewestForAll_L9 M v1 v2 = some x) (hc : ∀ b, x = .inl b → Z X 0 p l e rm_X5_fewestForAll s m args below meth c 0 0 (MQ below (QI X 0 r M s.heap.size) args s 0 0 (AA X 0 s.heap.size)) 3 M 9 [(0, .ref (X.2.2 87)), (1, .int b.1), (2, .int b.2)] []) (hx : ∀ b, x = .inr b → Z X 0 p l e rm_X5_fewestForAll s m args below meth c 0 0 (MQ below (QI X 0 r M s.heap.size) args s 0 0 (AA X 0 s.heap.size)) 3 M 44 [(1, .int b)] []) : Z X 0 p l e rm_X5_fewestForAll s m args below meth c 0 0 (MQ below (QI X 0 r M s.heap.size) args s 0 0 (AA X 0 s.heap.size)) 3 M 9 [(0, .ref (X.2.2 87)), (1, .int v1), (2, .int v2)] [] := by
  unfold f_X5_fewestForAll_L9 at he
  refine z_iload_n S dX5_fewestForAll_9 rfl 2 rfl ?_
  refine z_aload_n S dX5_fewestForAll_10 rfl 0 rfl ?_
  refine z_getI S fo_RX5_29 rfl ok_87 dX5_fewestForAll_11 ?_
  refine z_icmp_ge (tgt := 44) S he dX5_fewestForAll_14 (by decide) (fun he => ?_) (fun he => ?_)
  · refine z_lv (ks := [1]) rfl ?_
    exact hx _ (Option.some.inj he).symm
  · refine z_iload_n S dX5_fewestForAll_17 rfl 2 rfl ?_
    obtain ⟨r1, h9, he⟩ := bnd he
    refine z_cSI (As := [.int v2]) S cs_RX5_47 (K_J6_bitCount_0f7a4  h9) ⟨rfl, rfl⟩ ⟨Nat.le_of_ble_eq_true rfl, Nat.le_of_ble_eq_true rfl⟩ ⟨Nat.le_refl _, Nat.le_refl _⟩ rfl rfl (Nat.le_of_ble_eq_true rfl) dX5_fewestForAll_18 ?_
    refine z_iload_n S dX5_fewestForAll_21 rfl 1 rfl ?_
    obtain ⟨r2, h9, he⟩ := bnd he
    refine z_cSI (As := [.int v1]) S cs_RX5_47 (K_J6_bitCount_0f7a4  h9) ⟨rfl, rfl⟩ ⟨Nat.le_of_ble_eq_true rfl, Nat.le_of_ble_eq_true rfl⟩ ⟨Nat.le_refl _, Nat.le_refl _⟩ rfl rfl (Nat.le_of_ble_eq_true rfl) dX5_fewestForAll_22 ?_
    refine z_icmp_ge (tgt := 38) S he dX5_fewestForAll_25 (by decide) (fun he => ?_) (fun he => ?_)
    · refine z_iinc (v := (v2 + 1)) (lv' := [(0, .ref (X.2.2 87)), (1, .int v1), (2, .int (v2 + 1))]) S [1, 2, 0] 2 dX5_fewestForAll_38 rfl (by rfl) (by decide) rfl ?_
      refine z_goto (tgt := 9) S dX5_fewestForAll_41 (by decide) ?_
      refine z_lv (ks := [0, 1, 2]) rfl ?_
      exact hc _ (Option.some.inj he).symm
    · refine z_aload_n S dX5_fewestForAll_28 rfl 0 rfl ?_
      refine z_iload_n S dX5_fewestForAll_29 rfl 2 rfl ?_
      obtain ⟨r3, h9, he⟩ := bnd he
      refine z_cVI (As := [.int v2]) S cv_RX5_61 (K_X5_ringAllFor  h9) ok_87 (by decide) (q := (RX5, TX5, 5)) rfl rfl ⟨rfl, rfl⟩ ⟨Nat.le_of_ble_eq_true rfl, Nat.le_of_ble_eq_true rfl⟩ ⟨Nat.le_refl _, Nat.le_refl _⟩ rfl rfl (Nat.le_of_ble_eq_true rfl) dX5_fewestForAll_30 ?_
      refine z_ifb_eq (tgt := 38) S he dX5_fewestForAll_33 (by decide) (fun he => ?_) (fun he => ?_)
      · refine z_iinc (v := (v2 + 1)) (lv' := [(0, .ref (X.2.2 87)), (1, .int v1), (2, .int (v2 + 1))]) S [1, 2, 0] 2 dX5_fewestForAll_38 rfl (by rfl) (by decide) rfl ?_
        refine z_goto (tgt := 9) S dX5_fewestForAll_41 (by decide) ?_
        refine z_lv (ks := [0, 1, 2]) rfl ?_
        exact hc _ (Option.some.inj he).symm
      · refine z_iload_n S dX5_fewestForAll_36 rfl 2 rfl ?_
        refine z_istore_n (lv' := [(0, .ref (X.2.2 87)), (1, .int v2), (2, .int v2)]) S [1, 0, 2] dX5_fewestForAll_37 rfl (by decide) rfl ?_
        refine z_iinc (v := (v2 + 1)) (lv' := [(0, .ref (X.2.2 87)), (1, .int v2), (2, .int (v2 + 1))]) S [1, 2, 0] 2 dX5_fewestForAll_38 rfl (by rfl) (by decide) rfl ?_
        refine z_goto (tgt := 9) S dX5_fewestForAll_41 (by decide) ?_
        refine z_lv (ks := [0, 1, 2]) rfl ?_
        exact hc _ (Option.some.inj he).symm
set_option maxRecDepth 100000 in
set_option maxHeartbeats 4000000 in
theorem K_X5_fewestForAll {X : Cx} {l : Launch} {M : Mm} {r : Int32}  (he : f_X5_fewestForAll M  = some r) : KI X 0 l yX5_fewestForAll (wz yX5_fewestForAll cX5_fewestForAll 3 (some .int)) rm_X5_fewestForAll [.ref (X.2.2 87)] M r M := by
  intro sz
  refine K_of (Qc := (fun sz => QI X 0 r M sz)) (own := RX5) (lv0 := [(0, .ref (X.2.2 87))]) (by decide +kernel) rfl (Nat.le_of_ble_eq_true rfl) rfl (fun p e s m args below meth c S => ?_) sz
  · unfold f_X5_fewestForAll at he
    refine z_aload_n S dX5_fewestForAll_0 rfl 0 rfl ?_
    refine z_getI S fo_RX5_29 rfl ok_87 dX5_fewestForAll_1 ?_
    refine z_iconst (v := 1) S dX5_fewestForAll_4 (by decide) ?_
    refine z_isub S dX5_fewestForAll_5 ?_
    refine z_istore_n (lv' := [(0, .ref (X.2.2 87)), (1, .int ((gI M 87 4) - 1))]) S [1, 0] dX5_fewestForAll_6 rfl (by decide) rfl ?_
    refine z_iconst (v := 0) S dX5_fewestForAll_7 (by decide) ?_
    refine z_istore_n (lv' := [(0, .ref (X.2.2 87)), (1, .int ((gI M 87 4) - 1)), (2, .int 0)]) S [1, 2, 0] dX5_fewestForAll_8 rfl (by decide) rfl ?_
    obtain ⟨e_4, hl, he⟩ := bnd he
    have hX : Z X 0 p l e rm_X5_fewestForAll s m args below meth c 0 0 (MQ below (QI X 0 r M s.heap.size) args s 0 0 (AA X 0 s.heap.size)) 3 M 44 [(1, .int e_4)] [] := by
      refine z_iload_n S dX5_fewestForAll_44 rfl 0 rfl ?_
      exact z_iret S (⟨Option.some.inj he, rfl⟩) dX5_fewestForAll_45
    exact loopZ (Zh := (fun a_4 => Z X 0 p l e rm_X5_fewestForAll s m args below meth c 0 0 (MQ below (QI X 0 r M s.heap.size) args s 0 0 (AA X 0 s.heap.size)) 3 M 9 [(0, .ref (X.2.2 87)), (1, .int a_4.1), (2, .int a_4.2)] [])) (fun a_4 x hb hc hr => p_X5_fewestForAll_L9 S  hb hc (fun b hxe => by rw [hr b hxe]; exact hX)) FU _ hl
set_option maxRecDepth 100000 in
set_option maxHeartbeats 4000000 in
theorem p_X5_fewestTooMany_J4_32 {X : Cx} {p : Program} {l : Launch} {e : Env} {s : State} {m : MethodId} {args : Array Value} {below : List Frame} {meth : Method} {c : Code} (S : SB X 0 p s m args meth c cX5_fewestTooMany 4 (some .int) RX5) {M : Mm} {r : Int32} {v1 : Int32} {v2 : Int32} {t0 : Int32} {x : (Int32 × Int32) ⊕ Int32}  (he : f_X5_fewestTooMany_J4_32 M v1 v2 t0 = some x) (hc : ∀ b, x = .inl b → Z X 0 p l e rm_X5_fewestTooMany s m args below meth c 0 0 (MQ below (QI X 0 r M s.heap.size) args s 0 0 (AA X 0 s.heap.size)) 4 M 4 [(0, .ref (X.2.2 87)), (1, .int b.1), (2, .int b.2)] []) (hx : ∀ b, x = .inr b → Z X 0 p l e rm_X5_fewestTooMany s m args below meth c 0 0 (MQ below (QI X 0 r M s.heap.size) args s 0 0 (AA X 0 s.heap.size)) 4 M 53 [(1, .int b)] []) : Z X 0 p l e rm_X5_fewestTooMany s m args below meth c 0 0 (MQ below (QI X 0 r M s.heap.size) args s 0 0 (AA X 0 s.heap.size)) 4 M 32 [(0, .ref (X.2.2 87)), (1, .int v1), (2, .int v2)] [.int t0] := by
  unfold f_X5_fewestTooMany_J4_32 at he
  refine z_istore_n (lv' := [(0, .ref (X.2.2 87)), (1, .int v1), (2, .int v2), (3, .int t0)]) S [1, 2, 3, 0] dX5_fewestTooMany_32 rfl (by decide) rfl ?_
  refine z_iload_n S dX5_fewestTooMany_33 rfl 3 rfl ?_
  refine z_if_eq (tgt := 47) S he dX5_fewestTooMany_34 (by decide) (fun he => ?_) (fun he => ?_)
  · refine z_iinc (v := (v2 + 1)) (lv' := [(0, .ref (X.2.2 87)), (1, .int v1), (2, .int (v2 + 1)), (3, .int t0)]) S [1, 2, 0, 3] 2 dX5_fewestTooMany_47 rfl (by rfl) (by decide) rfl ?_
    refine z_goto (tgt := 4) S dX5_fewestTooMany_50 (by decide) ?_
    refine z_lv (ks := [0, 1, 2]) rfl ?_
    exact hc _ (Option.some.inj he).symm
  · refine z_aload_n S dX5_fewestTooMany_37 rfl 0 rfl ?_
    refine z_iload_n S dX5_fewestTooMany_38 rfl 2 rfl ?_
    obtain ⟨r1, h9, he⟩ := bnd he
    refine z_cVI (As := [.int v2]) S cv_RX5_53 (K_X5_tooMany  h9) ok_87 (by decide) (q := (RX5, TX5, 5)) rfl rfl ⟨rfl, rfl⟩ ⟨Nat.le_of_ble_eq_true rfl, Nat.le_of_ble_eq_true rfl⟩ ⟨Nat.le_refl _, Nat.le_refl _⟩ rfl rfl (Nat.le_of_ble_eq_true rfl) dX5_fewestTooMany_39 ?_
    refine z_ifb_eq (tgt := 47) S he dX5_fewestTooMany_42 (by decide) (fun he => ?_) (fun he => ?_)
    · refine z_iinc (v := (v2 + 1)) (lv' := [(0, .ref (X.2.2 87)), (1, .int v1), (2, .int (v2 + 1)), (3, .int t0)]) S [1, 2, 0, 3] 2 dX5_fewestTooMany_47 rfl (by rfl) (by decide) rfl ?_
      refine z_goto (tgt := 4) S dX5_fewestTooMany_50 (by decide) ?_
      refine z_lv (ks := [0, 1, 2]) rfl ?_
      exact hc _ (Option.some.inj he).symm
    · refine z_iload_n S dX5_fewestTooMany_45 rfl 2 rfl ?_
      refine z_istore_n (lv' := [(0, .ref (X.2.2 87)), (1, .int v2), (2, .int v2)]) S [1, 0, 2] dX5_fewestTooMany_46 rfl (by decide) rfl ?_
      refine z_iinc (v := (v2 + 1)) (lv' := [(0, .ref (X.2.2 87)), (1, .int v2), (2, .int (v2 + 1))]) S [1, 2, 0] 2 dX5_fewestTooMany_47 rfl (by rfl) (by decide) rfl ?_
      refine z_goto (tgt := 4) S dX5_fewestTooMany_50 (by decide) ?_
      refine z_lv (ks := [0, 1, 2]) rfl ?_
      exact hc _ (Option.some.inj he).symm
set_option maxRecDepth 100000 in
set_option maxHeartbeats 4000000 in
theorem p_X5_fewestTooMany_J4_27 {X : Cx} {p : Program} {l : Launch} {e : Env} {s : State} {m : MethodId} {args : Array Value} {below : List Frame} {meth : Method} {c : Code} (S : SB X 0 p s m args meth c cX5_fewestTooMany 4 (some .int) RX5) {M : Mm} {r : Int32} {v1 : Int32} {v2 : Int32} {x : (Int32 × Int32) ⊕ Int32}  (he : f_X5_fewestTooMany_J4_27 M v1 v2 = some x) (hc : ∀ b, x = .inl b → Z X 0 p l e rm_X5_fewestTooMany s m args below meth c 0 0 (MQ below (QI X 0 r M s.heap.size) args s 0 0 (AA X 0 s.heap.size)) 4 M 4 [(0, .ref (X.2.2 87)), (1, .int b.1), (2, .int b.2)] []) (hx : ∀ b, x = .inr b → Z X 0 p l e rm_X5_fewestTooMany s m args below meth c 0 0 (MQ below (QI X 0 r M s.heap.size) args s 0 0 (AA X 0 s.heap.size)) 4 M 53 [(1, .int b)] []) : Z X 0 p l e rm_X5_fewestTooMany s m args below meth c 0 0 (MQ below (QI X 0 r M s.heap.size) args s 0 0 (AA X 0 s.heap.size)) 4 M 27 [(0, .ref (X.2.2 87)), (1, .int v1), (2, .int v2)] [] := by
  unfold f_X5_fewestTooMany_J4_27 at he
  refine z_iconst (v := 1) S dX5_fewestTooMany_27 (by decide) ?_
  refine z_goto (tgt := 32) S dX5_fewestTooMany_28 (by decide) ?_
  exact p_X5_fewestTooMany_J4_32 S  he hc hx
set_option maxRecDepth 100000 in
set_option maxHeartbeats 4000000 in
theorem p_X5_fewestTooMany_L4 {X : Cx} {p : Program} {l : Launch} {e : Env} {s : State} {m : MethodId} {args : Array Value} {below : List Frame} {meth : Method} {c : Code} (S : SB X 0 p s m args meth c cX5_fewestTooMany 4 (some .int) RX5) {M : Mm} {r : Int32} {v1 : Int32} {v2 : Int32} {x : (Int32 × Int32) ⊕ Int32}  (he : f_X5_fewestTooMany_L4 M v1 v2 = some x) (hc : ∀ b, x = .inl b → Z X 0 p l e rm_X5_fewestTooMany s m args below meth c 0 0 (MQ below (QI X 0 r M s.heap.size) args s 0 0 (AA X 0 s.heap.size)) 4 M 4 [(0, .ref (X.2.2 87)), (1, .int b.1), (2, .int b.2)] []) (hx : ∀ b, x = .inr b → Z X 0 p l e rm_X5_fewestTooMany s m args below meth c 0 0 (MQ below (QI X 0 r M s.heap.size) args s 0 0 (AA X 0 s.heap.size)) 4 M 53 [(1, .int b)] []) : Z X 0 p l e rm_X5_fewestTooMany s m args below meth c 0 0 (MQ below (QI X 0 r M s.heap.size) args s 0 0 (AA X 0 s.heap.size)) 4 M 4 [(0, .ref (X.2.2 87)), (1, .int v1), (2, .int v2)] [] := by
  unfold f_X5_fewestTooMany_L4 at he
  refine z_iload_n S dX5_fewestTooMany_4 rfl 2 rfl ?_
  refine z_aload_n S dX5_fewestTooMany_5 rfl 0 rfl ?_
  refine z_getI S fo_RX5_29 rfl ok_87 dX5_fewestTooMany_6 ?_
  refine z_icmp_ge (tgt := 53) S he dX5_fewestTooMany_9 (by decide) (fun he => ?_) (fun he => ?_)
  · refine z_lv (ks := [1]) rfl ?_
    exact hx _ (Option.some.inj he).symm
  · refine z_iload_n S dX5_fewestTooMany_12 rfl 1 rfl ?_
    refine z_if_eq (tgt := 27) S he dX5_fewestTooMany_13 (by decide) (fun he => ?_) (fun he => ?_)
    · exact p_X5_fewestTooMany_J4_27 S  he hc hx
    · refine z_iload_n S dX5_fewestTooMany_16 rfl 2 rfl ?_
      obtain ⟨r2, h9, he⟩ := bnd he
      refine z_cSI (As := [.int v2]) S cs_RX5_47 (K_J6_bitCount_0f7a4  h9) ⟨rfl, rfl⟩ ⟨Nat.le_of_ble_eq_true rfl, Nat.le_of_ble_eq_true rfl⟩ ⟨Nat.le_refl _, Nat.le_refl _⟩ rfl rfl (Nat.le_of_ble_eq_true rfl) dX5_fewestTooMany_17 ?_
      refine z_iload_n S dX5_fewestTooMany_20 rfl 1 rfl ?_
      obtain ⟨r3, h9, he⟩ := bnd he
      refine z_cSI (As := [.int v1]) S cs_RX5_47 (K_J6_bitCount_0f7a4  h9) ⟨rfl, rfl⟩ ⟨Nat.le_of_ble_eq_true rfl, Nat.le_of_ble_eq_true rfl⟩ ⟨Nat.le_refl _, Nat.le_refl _⟩ rfl rfl (Nat.le_of_ble_eq_true rfl) dX5_fewestTooMany_21 ?_
      refine z_icmp_ge (tgt := 31) S he dX5_fewestTooMany_24 (by decide) (fun he => ?_) (fun he => ?_)
      · refine z_iconst (v := 0) S dX5_fewestTooMany_31 (by decide) ?_
        exact p_X5_fewestTooMany_J4_32 S  he hc hx
      · exact p_X5_fewestTooMany_J4_27 S  he hc hx
set_option maxRecDepth 100000 in
set_option maxHeartbeats 4000000 in
theorem K_X5_fewestTooMany {X : Cx} {l : Launch} {M : Mm} {r : Int32}  (he : f_X5_fewestTooMany M  = some r) : KI X 0 l yX5_fewestTooMany (wz yX5_fewestTooMany cX5_fewestTooMany 4 (some .int)) rm_X5_fewestTooMany [.ref (X.2.2 87)] M r M := by
  intro sz
  refine K_of (Qc := (fun sz => QI X 0 r M sz)) (own := RX5) (lv0 := [(0, .ref (X.2.2 87))]) (by decide +kernel) rfl (Nat.le_of_ble_eq_true rfl) rfl (fun p e s m args below meth c S => ?_) sz
  · unfold f_X5_fewestTooMany at he
    refine z_iconst (v := 0) S dX5_fewestTooMany_0 (by decide) ?_
    refine z_istore_n (lv' := [(0, .ref (X.2.2 87)), (1, .int 0)]) S [1, 0] dX5_fewestTooMany_1 rfl (by decide) rfl ?_
    refine z_iconst (v := 1) S dX5_fewestTooMany_2 (by decide) ?_
    refine z_istore_n (lv' := [(0, .ref (X.2.2 87)), (1, .int 0), (2, .int 1)]) S [1, 2, 0] dX5_fewestTooMany_3 rfl (by decide) rfl ?_
    obtain ⟨e_4, hl, he⟩ := bnd he
    have hX : Z X 0 p l e rm_X5_fewestTooMany s m args below meth c 0 0 (MQ below (QI X 0 r M s.heap.size) args s 0 0 (AA X 0 s.heap.size)) 4 M 53 [(1, .int e_4)] [] := by
      refine z_iload_n S dX5_fewestTooMany_53 rfl 0 rfl ?_
      exact z_iret S (⟨Option.some.inj he, rfl⟩) dX5_fewestTooMany_54
    exact loopZ (Zh := (fun a_4 => Z X 0 p l e rm_X5_fewestTooMany s m args below meth c 0 0 (MQ below (QI X 0 r M s.heap.size) args s 0 0 (AA X 0 s.heap.size)) 4 M 4 [(0, .ref (X.2.2 87)), (1, .int a_4.1), (2, .int a_4.2)] [])) (fun a_4 x hb hc hr => p_X5_fewestTooMany_L4 S  hb hc (fun b hxe => by rw [hr b hxe]; exact hX)) FU _ hl
set_option maxRecDepth 100000 in
set_option maxHeartbeats 4000000 in
theorem p_X5_mostAtOnce_L4 {X : Cx} {p : Program} {l : Launch} {e : Env} {s : State} {m : MethodId} {args : Array Value} {below : List Frame} {meth : Method} {c : Code} (S : SB X 0 p s m args meth c cX5_mostAtOnce 4 (some .int) RX5) {M : Mm} {r : Int32} {v1 : Int32} {v2 : Int32} {x : (Int32 × Int32) ⊕ Int32}  (he : f_X5_mostAtOnce_L4 M v1 v2 = some x) (hc : ∀ b, x = .inl b → Z X 0 p l e rm_X5_mostAtOnce s m args below meth c 0 0 (MQ below (QI X 0 r M s.heap.size) args s 0 0 (AA X 0 s.heap.size)) 4 M 4 [(0, .ref (X.2.2 87)), (1, .int b.1), (2, .int b.2)] []) (hx : ∀ b, x = .inr b → Z X 0 p l e rm_X5_mostAtOnce s m args below meth c 0 0 (MQ below (QI X 0 r M s.heap.size) args s 0 0 (AA X 0 s.heap.size)) 4 M 35 [(1, .int b)] []) : Z X 0 p l e rm_X5_mostAtOnce s m args below meth c 0 0 (MQ below (QI X 0 r M s.heap.size) args s 0 0 (AA X 0 s.heap.size)) 4 M 4 [(0, .ref (X.2.2 87)), (1, .int v1), (2, .int v2)] [] := by
  unfold f_X5_mostAtOnce_L4 at he
  refine z_iload_n S dX5_mostAtOnce_4 rfl 2 rfl ?_
  refine z_aload_n S dX5_mostAtOnce_5 rfl 0 rfl ?_
  refine z_getI S fo_RX5_28 rfl ok_87 dX5_mostAtOnce_6 ?_
  refine z_icmp_ge (tgt := 35) S he dX5_mostAtOnce_9 (by decide) (fun he => ?_) (fun he => ?_)
  · refine z_lv (ks := [1]) rfl ?_
    exact hx _ (Option.some.inj he).symm
  · refine z_iload_n S dX5_mostAtOnce_12 rfl 1 rfl ?_
    refine z_iconst (v := 1) S dX5_mostAtOnce_13 (by decide) ?_
    refine z_iload_n S dX5_mostAtOnce_14 rfl 2 rfl ?_
    refine z_ishl S dX5_mostAtOnce_15 ?_
    refine z_ior S dX5_mostAtOnce_16 ?_
    obtain ⟨x1, ex1, he⟩ := bnd he
    rw [Option.some.inj ex1]
    refine z_istore_n (lv' := [(0, .ref (X.2.2 87)), (1, .int v1), (2, .int v2), (3, .int x1)]) S [1, 2, 3, 0] dX5_mostAtOnce_17 rfl (by decide) rfl ?_
    refine z_aload_n S dX5_mostAtOnce_18 rfl 0 rfl ?_
    refine z_iload_n S dX5_mostAtOnce_19 rfl 3 rfl ?_
    refine z_iload_n S dX5_mostAtOnce_20 rfl 2 rfl ?_
    obtain ⟨r2, h9, he⟩ := bnd he
    refine z_cVI (As := [.int x1, .int v2]) S cv_RX5_57 (K_X5_anyTooMany  h9) ok_87 (by decide) (q := (RX5, TX5, 5)) rfl rfl ⟨rfl, rfl⟩ ⟨Nat.le_of_ble_eq_true rfl, Nat.le_of_ble_eq_true rfl⟩ ⟨Nat.le_refl _, Nat.le_refl _⟩ rfl rfl (Nat.le_of_ble_eq_true rfl) dX5_mostAtOnce_21 ?_
    refine z_ifb_ne (tgt := 29) S he dX5_mostAtOnce_24 (by decide) (fun he => ?_) (fun he => ?_)
    · refine z_iinc (v := (v2 + 1)) (lv' := [(0, .ref (X.2.2 87)), (1, .int v1), (2, .int (v2 + 1)), (3, .int x1)]) S [1, 2, 0, 3] 2 dX5_mostAtOnce_29 rfl (by rfl) (by decide) rfl ?_
      refine z_goto (tgt := 4) S dX5_mostAtOnce_32 (by decide) ?_
      refine z_lv (ks := [0, 1, 2]) rfl ?_
      exact hc _ (Option.some.inj he).symm
    · refine z_iload_n S dX5_mostAtOnce_27 rfl 3 rfl ?_
      refine z_istore_n (lv' := [(0, .ref (X.2.2 87)), (1, .int x1), (2, .int v2)]) S [1, 0, 2] dX5_mostAtOnce_28 rfl (by decide) rfl ?_
      refine z_iinc (v := (v2 + 1)) (lv' := [(0, .ref (X.2.2 87)), (1, .int x1), (2, .int (v2 + 1))]) S [1, 2, 0] 2 dX5_mostAtOnce_29 rfl (by rfl) (by decide) rfl ?_
      refine z_goto (tgt := 4) S dX5_mostAtOnce_32 (by decide) ?_
      refine z_lv (ks := [0, 1, 2]) rfl ?_
      exact hc _ (Option.some.inj he).symm
set_option maxRecDepth 100000 in
set_option maxHeartbeats 4000000 in
theorem K_X5_mostAtOnce {X : Cx} {l : Launch} {M : Mm} {r : Int32}  (he : f_X5_mostAtOnce M  = some r) : KI X 0 l yX5_mostAtOnce (wz yX5_mostAtOnce cX5_mostAtOnce 4 (some .int)) rm_X5_mostAtOnce [.ref (X.2.2 87)] M r M := by
  intro sz
  refine K_of (Qc := (fun sz => QI X 0 r M sz)) (own := RX5) (lv0 := [(0, .ref (X.2.2 87))]) (by decide +kernel) rfl (Nat.le_of_ble_eq_true rfl) rfl (fun p e s m args below meth c S => ?_) sz
  · unfold f_X5_mostAtOnce at he
    refine z_iconst (v := 0) S dX5_mostAtOnce_0 (by decide) ?_
    refine z_istore_n (lv' := [(0, .ref (X.2.2 87)), (1, .int 0)]) S [1, 0] dX5_mostAtOnce_1 rfl (by decide) rfl ?_
    refine z_iconst (v := 0) S dX5_mostAtOnce_2 (by decide) ?_
    refine z_istore_n (lv' := [(0, .ref (X.2.2 87)), (1, .int 0), (2, .int 0)]) S [1, 2, 0] dX5_mostAtOnce_3 rfl (by decide) rfl ?_
    obtain ⟨e_3, hl, he⟩ := bnd he
    have hX : Z X 0 p l e rm_X5_mostAtOnce s m args below meth c 0 0 (MQ below (QI X 0 r M s.heap.size) args s 0 0 (AA X 0 s.heap.size)) 4 M 35 [(1, .int e_3)] [] := by
      refine z_iload_n S dX5_mostAtOnce_35 rfl 0 rfl ?_
      exact z_iret S (⟨Option.some.inj he, rfl⟩) dX5_mostAtOnce_36
    exact loopZ (Zh := (fun a_3 => Z X 0 p l e rm_X5_mostAtOnce s m args below meth c 0 0 (MQ below (QI X 0 r M s.heap.size) args s 0 0 (AA X 0 s.heap.size)) 4 M 4 [(0, .ref (X.2.2 87)), (1, .int a_3.1), (2, .int a_3.2)] [])) (fun a_3 x hb hc hr => p_X5_mostAtOnce_L4 S  hb hc (fun b hxe => by rw [hr b hxe]; exact hX)) FU _ hl
set_option maxRecDepth 100000 in
set_option maxHeartbeats 4000000 in
theorem p_X5_take_L28 {X : Cx} {p : Program} {l : Launch} {e : Env} {s : State} {m : MethodId} {args : Array Value} {below : List Frame} {meth : Method} {c : Code} (S : SB X 0 p s m args meth c cX5_take 4 none RX5) {M : Mm} {N : Mm} {v1 : Nat} {v3 : Int32} {x : (Mm × Int32) ⊕ Mm} (h_v1 : OK 0 v1 4) (he : f_X5_take_L28 M v1 v3 = some x) (hc : ∀ b, x = .inl b → Z X 0 p l e rm_X5_take s m args below meth c 0 0 (MQ below (QV X 0 N s.heap.size) args s 0 0 (AA X 0 s.heap.size)) 4 b.1 28 [(0, .ref (X.2.2 87)), (1, .ref (X.2.2 v1)), (2, .ref (X.2.2 82)), (3, .int b.2)] []) (hx : ∀ b, x = .inr b → Z X 0 p l e rm_X5_take s m args below meth c 0 0 (MQ below (QV X 0 N s.heap.size) args s 0 0 (AA X 0 s.heap.size)) 4 b 72 [] []) : Z X 0 p l e rm_X5_take s m args below meth c 0 0 (MQ below (QV X 0 N s.heap.size) args s 0 0 (AA X 0 s.heap.size)) 4 M 28 [(0, .ref (X.2.2 87)), (1, .ref (X.2.2 v1)), (2, .ref (X.2.2 82)), (3, .int v3)] [] := by
  unfold f_X5_take_L28 at he
  refine z_iload_n S dX5_take_28 rfl 3 rfl ?_
  refine z_aload_n S dX5_take_29 rfl 0 rfl ?_
  refine z_getI S fo_RX5_24 rfl ok_87 dX5_take_30 ?_
  refine z_icmp_ge (tgt := 72) S he dX5_take_33 (by decide) (fun he => ?_) (fun he => ?_)
  · refine z_lv (ks := []) rfl ?_
    exact hx _ (Option.some.inj he).symm
  · refine z_aload_n S dX5_take_36 rfl 0 rfl ?_
    refine z_getF (j := 88) S fo_RX5_9 1 rfl rfl ok_87 dX5_take_37 ?_
    refine z_iload_n S dX5_take_40 rfl 3 rfl ?_
    refine z_aload_n S dX5_take_41 rfl 2 rfl ?_
    refine z_getF (j := 84) S fo_RX5_32 2 rfl rfl ok_82 dX5_take_42 ?_
    refine z_iload_n S dX5_take_45 rfl 3 rfl ?_
    refine z_cNI (As := [.ref (X.2.2 84), .int v3]) S cn_RX5_35 (Kt_X9_at ok_84 rfl) ⟨rfl, rfl⟩ ⟨Nat.le_of_ble_eq_true rfl, Nat.le_of_ble_eq_true rfl⟩ ⟨Nat.le_refl _, Nat.le_refl _⟩ rfl rfl (Nat.le_of_ble_eq_true rfl) dX5_take_46 ?_
    obtain ⟨M4, h9, he⟩ := bnd he
    refine z_cNV (As := [.ref (X.2.2 88), .int v3, .int (t_X9_at M 84 v3)]) S cn_RX5_39 (Kt_X9_put ok_88 (Option.some.inj h9)) ⟨rfl, rfl⟩ ⟨Nat.le_of_ble_eq_true rfl, Nat.le_of_ble_eq_true rfl⟩ ⟨Nat.le_refl _, Nat.le_refl _⟩ rfl rfl (Nat.le_of_ble_eq_true rfl) dX5_take_49 ?_
    refine z_aload_n S dX5_take_52 rfl 0 rfl ?_
    refine z_getF (j := 89) S fo_RX5_15 2 rfl rfl ok_87 dX5_take_53 ?_
    refine z_iload_n S dX5_take_56 rfl 3 rfl ?_
    refine z_aload_n S dX5_take_57 rfl 1 rfl ?_
    refine z_iload_n S dX5_take_58 rfl 3 rfl ?_
    refine z_iconst (v := 2) S dX5_take_59 (by decide) ?_
    refine z_cVI (As := [.int v3, .int 2]) S cv_RX5_43 (K_X4_ofThing h_v1 rfl) h_v1 (by decide) (q := (RX4, TX4, 10)) rfl rfl ⟨rfl, rfl⟩ ⟨Nat.le_of_ble_eq_true rfl, Nat.le_of_ble_eq_true rfl⟩ ⟨Nat.le_refl _, Nat.le_refl _⟩ rfl rfl (Nat.le_of_ble_eq_true rfl) dX5_take_60 ?_
    obtain ⟨M5, h9, he⟩ := bnd he
    refine z_cNV (As := [.ref (X.2.2 89), .int v3, .int (f_X4_ofThing M4 v1 v3 2)]) S cn_RX5_39 (Kt_X9_put ok_89 (Option.some.inj h9)) ⟨rfl, rfl⟩ ⟨Nat.le_of_ble_eq_true rfl, Nat.le_of_ble_eq_true rfl⟩ ⟨Nat.le_refl _, Nat.le_refl _⟩ rfl rfl (Nat.le_of_ble_eq_true rfl) dX5_take_63 ?_
    refine z_iinc (v := (v3 + 1)) (lv' := [(0, .ref (X.2.2 87)), (1, .ref (X.2.2 v1)), (2, .ref (X.2.2 82)), (3, .int (v3 + 1))]) S [1, 2, 3, 0] 3 dX5_take_66 rfl (by rfl) (by decide) rfl ?_
    refine z_goto (tgt := 28) S dX5_take_69 (by decide) ?_
    refine z_lv (ks := [0, 1, 2, 3]) rfl ?_
    exact hc _ (Option.some.inj he).symm
set_option maxRecDepth 100000 in
set_option maxHeartbeats 4000000 in
theorem K_X5_take {X : Cx} {l : Launch} {M : Mm} {a1 : Nat} {N : Mm} (h_a1 : OK 0 a1 4) (he : f_X5_take M a1 = some N) : KV X 0 l yX5_take (wz yX5_take cX5_take 4 none) rm_X5_take [.ref (X.2.2 87), .ref (X.2.2 a1), .ref (X.2.2 82)] M N := by
  intro sz
  refine K_of (Qc := (fun sz => QV X 0 N sz)) (own := RX5) (lv0 := [(0, .ref (X.2.2 87)), (1, .ref (X.2.2 a1)), (2, .ref (X.2.2 82))]) (by decide +kernel) rfl (Nat.le_of_ble_eq_true rfl) rfl (fun p e s m args below meth c S => ?_) sz
  · unfold f_X5_take at he
    refine z_aload_n S dX5_take_0 rfl 0 rfl ?_
    refine z_aload_n S dX5_take_1 rfl 1 rfl ?_
    refine z_getI S fo_RX5_18 rfl h_a1 dX5_take_2 ?_
    refine z_putIb S fo_RX5_24p rfl ok_87 rfl rfl he dX5_take_5 (fun M1 he => ?_)
    refine z_aload_n S dX5_take_8 rfl 0 rfl ?_
    refine z_aload_n S dX5_take_9 rfl 1 rfl ?_
    refine z_getI S fo_RX5_25 rfl h_a1 dX5_take_10 ?_
    refine z_putIb S fo_RX5_28p rfl ok_87 rfl rfl he dX5_take_13 (fun M2 he => ?_)
    refine z_aload_n S dX5_take_16 rfl 0 rfl ?_
    refine z_iconst (v := 1) S dX5_take_17 (by decide) ?_
    refine z_aload_n S dX5_take_18 rfl 0 rfl ?_
    refine z_getI S fo_RX5_28 rfl ok_87 dX5_take_19 ?_
    refine z_ishl S dX5_take_22 ?_
    refine z_putIb S fo_RX5_29p rfl ok_87 rfl rfl he dX5_take_23 (fun M3 he => ?_)
    refine z_iconst (v := 0) S dX5_take_26 (by decide) ?_
    refine z_istore_n (lv' := [(0, .ref (X.2.2 87)), (1, .ref (X.2.2 a1)), (2, .ref (X.2.2 82)), (3, .int 0)]) S [1, 2, 3, 0] dX5_take_27 rfl (by decide) rfl ?_
    obtain ⟨e_6, hl, he⟩ := bnd he
    have hX : Z X 0 p l e rm_X5_take s m args below meth c 0 0 (MQ below (QV X 0 N s.heap.size) args s 0 0 (AA X 0 s.heap.size)) 4 e_6 72 [] [] := by
      exact z_vret S (Option.some.inj he) dX5_take_72
    exact loopZ (Zh := (fun a_6 => Z X 0 p l e rm_X5_take s m args below meth c 0 0 (MQ below (QV X 0 N s.heap.size) args s 0 0 (AA X 0 s.heap.size)) 4 a_6.1 28 [(0, .ref (X.2.2 87)), (1, .ref (X.2.2 a1)), (2, .ref (X.2.2 82)), (3, .int a_6.2)] [])) (fun a_6 x hb hc hr => p_X5_take_L28 S h_a1 hb hc (fun b hxe => by rw [hr b hxe]; exact hX)) FU _ hl
set_option maxRecDepth 100000 in
set_option maxHeartbeats 4000000 in
theorem p_X6_envied_L4 {X : Cx} {p : Program} {l : Launch} {e : Env} {s : State} {m : MethodId} {args : Array Value} {below : List Frame} {meth : Method} {c : Code} (S : SB X 0 p s m args meth c cX6_envied 6 (some .int) RX6) {M : Mm} {r : Int32} {v1 : Int32} {v2 : Int32} {v3 : Int32} {x : (Int32 × Int32) ⊕ Int32}  (he : f_X6_envied_L4 M v1 v2 v3 = some x) (hc : ∀ b, x = .inl b → Z X 0 p l e rm_X6_envied s m args below meth c 0 0 (MQ below (QI X 0 r M s.heap.size) args s 0 0 (AA X 0 s.heap.size)) 6 M 4 [(0, .ref (X.2.2 82)), (1, .int v1), (2, .int b.1), (3, .int b.2)] []) (hx : ∀ b, x = .inr b → Z X 0 p l e rm_X6_envied s m args below meth c 0 0 (MQ below (QI X 0 r M s.heap.size) args s 0 0 (AA X 0 s.heap.size)) 6 M 39 [(0, .ref (X.2.2 82)), (1, .int v1), (2, .int b)] []) : Z X 0 p l e rm_X6_envied s m args below meth c 0 0 (MQ below (QI X 0 r M s.heap.size) args s 0 0 (AA X 0 s.heap.size)) 6 M 4 [(0, .ref (X.2.2 82)), (1, .int v1), (2, .int v2), (3, .int v3)] [] := by
  unfold f_X6_envied_L4 at he
  refine z_iload_n S dX6_envied_4 rfl 3 rfl ?_
  refine z_bipush (v := 10) S dX6_envied_5 (by decide) ?_
  refine z_icmp_ge (tgt := 39) S he dX6_envied_7 (by decide) (fun he => ?_) (fun he => ?_)
  · refine z_lv (ks := [0, 1, 2]) rfl ?_
    exact hx _ (Option.some.inj he).symm
  · refine z_aload_n S dX6_envied_10 rfl 0 rfl ?_
    refine z_getF (j := 85) S fo_RX6_18 3 rfl rfl ok_82 dX6_envied_11 ?_
    refine z_iload_n S dX6_envied_14 rfl 3 rfl ?_
    refine z_cNI (As := [.ref (X.2.2 85), .int v3]) S cn_RX6_55 (Kt_X9_at ok_85 rfl) ⟨rfl, rfl⟩ ⟨Nat.le_of_ble_eq_true rfl, Nat.le_of_ble_eq_true rfl⟩ ⟨Nat.le_refl _, Nat.le_refl _⟩ rfl rfl (Nat.le_of_ble_eq_true rfl) dX6_envied_15 ?_
    refine z_iload_n S dX6_envied_18 rfl 1 rfl ?_
    refine z_icmp_ne (tgt := 33) S he dX6_envied_19 (by decide) (fun he => ?_) (fun he => ?_)
    · refine z_iinc (v := (v3 + 1)) (lv' := [(0, .ref (X.2.2 82)), (1, .int v1), (2, .int v2), (3, .int (v3 + 1))]) S [1, 2, 3, 0] 3 dX6_envied_33 rfl (by rfl) (by decide) rfl ?_
      refine z_goto (tgt := 4) S dX6_envied_36 (by decide) ?_
      refine z_lv (ks := [0, 1, 2, 3]) rfl ?_
      exact hc _ (Option.some.inj he).symm
    · refine z_iload_n S dX6_envied_22 rfl 2 rfl ?_
      refine z_aload_n S dX6_envied_23 rfl 0 rfl ?_
      refine z_iload_n S dX6_envied_24 rfl 1 rfl ?_
      refine z_iload_n S dX6_envied_25 rfl 3 rfl ?_
      refine z_cVI (As := [.int v1, .int v3]) S cv_RX6_47 (K_X6_likes  rfl) ok_82 (by decide) (q := (RX6, TX6, 4)) rfl rfl ⟨rfl, rfl⟩ ⟨Nat.le_of_ble_eq_true rfl, Nat.le_of_ble_eq_true rfl⟩ ⟨Nat.le_refl _, Nat.le_refl _⟩ rfl rfl (Nat.le_of_ble_eq_true rfl) dX6_envied_26 ?_
      refine z_mmax S cm_RX6_109 (Nat.le_of_ble_eq_true rfl) (Nat.le_of_ble_eq_true rfl) ⟨Nat.le_refl _, Nat.le_refl _⟩ dX6_envied_29 ?_
      obtain ⟨x1, ex1, he⟩ := bnd he
      rw [Option.some.inj ex1]
      refine z_istore_n (lv' := [(0, .ref (X.2.2 82)), (1, .int v1), (2, .int x1), (3, .int v3)]) S [1, 2, 0, 3] dX6_envied_32 rfl (by decide) rfl ?_
      refine z_iinc (v := (v3 + 1)) (lv' := [(0, .ref (X.2.2 82)), (1, .int v1), (2, .int x1), (3, .int (v3 + 1))]) S [1, 2, 3, 0] 3 dX6_envied_33 rfl (by rfl) (by decide) rfl ?_
      refine z_goto (tgt := 4) S dX6_envied_36 (by decide) ?_
      refine z_lv (ks := [0, 1, 2, 3]) rfl ?_
      exact hc _ (Option.some.inj he).symm
set_option maxRecDepth 100000 in
set_option maxHeartbeats 4000000 in
theorem p_X6_envied_J44_82 {X : Cx} {p : Program} {l : Launch} {e : Env} {s : State} {m : MethodId} {args : Array Value} {below : List Frame} {meth : Method} {c : Code} (S : SB X 0 p s m args meth c cX6_envied 6 (some .int) RX6) {M : Mm} {r : Int32} {v1 : Int32} {v2 : Int32} {v3 : Int32} {v4 : Int32} {t0 : Int32} {x : (Int32 × Int32) ⊕ Int32}  (he : f_X6_envied_J44_82 M v1 v2 v3 v4 t0 = some x) (hc : ∀ b, x = .inl b → Z X 0 p l e rm_X6_envied s m args below meth c 0 0 (MQ below (QI X 0 r M s.heap.size) args s 0 0 (AA X 0 s.heap.size)) 6 M 44 [(0, .ref (X.2.2 82)), (1, .int v1), (2, .int v2), (3, .int b.1), (4, .int b.2)] []) (hx : ∀ b, x = .inr b → Z X 0 p l e rm_X6_envied s m args below meth c 0 0 (MQ below (QI X 0 r M s.heap.size) args s 0 0 (AA X 0 s.heap.size)) 6 M 123 [(3, .int b)] []) : Z X 0 p l e rm_X6_envied s m args below meth c 0 0 (MQ below (QI X 0 r M s.heap.size) args s 0 0 (AA X 0 s.heap.size)) 6 M 82 [(0, .ref (X.2.2 82)), (1, .int v1), (2, .int v2), (3, .int v3), (4, .int v4)] [.int t0] := by
  unfold f_X6_envied_J44_82 at he
  refine z_istore (lv' := [(0, .ref (X.2.2 82)), (1, .int v1), (2, .int v2), (3, .int v3), (4, .int v4), (5, .int t0)]) S [1, 2, 3, 4, 5, 0] dX6_envied_82 (by decide) rfl ?_
  refine z_iload S dX6_envied_84 5 rfl ?_
  refine z_if_eq (tgt := 117) S he dX6_envied_86 (by decide) (fun he => ?_) (fun he => ?_)
  · refine z_iinc (v := (v4 + 1)) (lv' := [(0, .ref (X.2.2 82)), (1, .int v1), (2, .int v2), (3, .int v3), (4, .int (v4 + 1)), (5, .int t0)]) S [1, 2, 3, 4, 0, 5] 4 dX6_envied_117 rfl (by rfl) (by decide) rfl ?_
    refine z_goto (tgt := 44) S dX6_envied_120 (by decide) ?_
    refine z_lv (ks := [0, 1, 2, 3, 4]) rfl ?_
    exact hc _ (Option.some.inj he).symm
  · refine z_aload_n S dX6_envied_89 rfl 0 rfl ?_
    refine z_iload_n S dX6_envied_90 rfl 1 rfl ?_
    refine z_iload S dX6_envied_91 4 rfl ?_
    refine z_cVI (As := [.int v1, .int v4]) S cv_RX6_76 (K_X6_calls  rfl) ok_82 (by decide) (q := (RX6, TX6, 4)) rfl rfl ⟨rfl, rfl⟩ ⟨Nat.le_of_ble_eq_true rfl, Nat.le_of_ble_eq_true rfl⟩ ⟨Nat.le_refl _, Nat.le_refl _⟩ rfl rfl (Nat.le_of_ble_eq_true rfl) dX6_envied_93 ?_
    refine z_ifb_eq (tgt := 117) S he dX6_envied_96 (by decide) (fun he => ?_) (fun he => ?_)
    · refine z_iinc (v := (v4 + 1)) (lv' := [(0, .ref (X.2.2 82)), (1, .int v1), (2, .int v2), (3, .int v3), (4, .int (v4 + 1)), (5, .int t0)]) S [1, 2, 3, 4, 0, 5] 4 dX6_envied_117 rfl (by rfl) (by decide) rfl ?_
      refine z_goto (tgt := 44) S dX6_envied_120 (by decide) ?_
      refine z_lv (ks := [0, 1, 2, 3, 4]) rfl ?_
      exact hc _ (Option.some.inj he).symm
    · refine z_aload_n S dX6_envied_99 rfl 0 rfl ?_
      refine z_iload_n S dX6_envied_100 rfl 1 rfl ?_
      refine z_iload S dX6_envied_101 4 rfl ?_
      refine z_cVI (As := [.int v1, .int v4]) S cv_RX6_47 (K_X6_likes  rfl) ok_82 (by decide) (q := (RX6, TX6, 4)) rfl rfl ⟨rfl, rfl⟩ ⟨Nat.le_of_ble_eq_true rfl, Nat.le_of_ble_eq_true rfl⟩ ⟨Nat.le_refl _, Nat.le_refl _⟩ rfl rfl (Nat.le_of_ble_eq_true rfl) dX6_envied_103 ?_
      refine z_iload_n S dX6_envied_106 rfl 2 rfl ?_
      refine z_icmp_le (tgt := 117) S he dX6_envied_107 (by decide) (fun he => ?_) (fun he => ?_)
      · refine z_iinc (v := (v4 + 1)) (lv' := [(0, .ref (X.2.2 82)), (1, .int v1), (2, .int v2), (3, .int v3), (4, .int (v4 + 1)), (5, .int t0)]) S [1, 2, 3, 4, 0, 5] 4 dX6_envied_117 rfl (by rfl) (by decide) rfl ?_
        refine z_goto (tgt := 44) S dX6_envied_120 (by decide) ?_
        refine z_lv (ks := [0, 1, 2, 3, 4]) rfl ?_
        exact hc _ (Option.some.inj he).symm
      · refine z_iload_n S dX6_envied_110 rfl 3 rfl ?_
        refine z_iconst (v := 1) S dX6_envied_111 (by decide) ?_
        refine z_iload S dX6_envied_112 4 rfl ?_
        refine z_ishl S dX6_envied_114 ?_
        refine z_ior S dX6_envied_115 ?_
        obtain ⟨x3, ex3, he⟩ := bnd he
        rw [Option.some.inj ex3]
        refine z_istore_n (lv' := [(0, .ref (X.2.2 82)), (1, .int v1), (2, .int v2), (3, .int x3), (4, .int v4)]) S [1, 2, 3, 0, 4] dX6_envied_116 rfl (by decide) rfl ?_
        refine z_iinc (v := (v4 + 1)) (lv' := [(0, .ref (X.2.2 82)), (1, .int v1), (2, .int v2), (3, .int x3), (4, .int (v4 + 1))]) S [1, 2, 3, 4, 0] 4 dX6_envied_117 rfl (by rfl) (by decide) rfl ?_
        refine z_goto (tgt := 44) S dX6_envied_120 (by decide) ?_
        refine z_lv (ks := [0, 1, 2, 3, 4]) rfl ?_
        exact hc _ (Option.some.inj he).symm
set_option maxRecDepth 100000 in
set_option maxHeartbeats 4000000 in
theorem p_X6_envied_J44_81 {X : Cx} {p : Program} {l : Launch} {e : Env} {s : State} {m : MethodId} {args : Array Value} {below : List Frame} {meth : Method} {c : Code} (S : SB X 0 p s m args meth c cX6_envied 6 (some .int) RX6) {M : Mm} {r : Int32} {v1 : Int32} {v2 : Int32} {v3 : Int32} {v4 : Int32} {x : (Int32 × Int32) ⊕ Int32}  (he : f_X6_envied_J44_81 M v1 v2 v3 v4 = some x) (hc : ∀ b, x = .inl b → Z X 0 p l e rm_X6_envied s m args below meth c 0 0 (MQ below (QI X 0 r M s.heap.size) args s 0 0 (AA X 0 s.heap.size)) 6 M 44 [(0, .ref (X.2.2 82)), (1, .int v1), (2, .int v2), (3, .int b.1), (4, .int b.2)] []) (hx : ∀ b, x = .inr b → Z X 0 p l e rm_X6_envied s m args below meth c 0 0 (MQ below (QI X 0 r M s.heap.size) args s 0 0 (AA X 0 s.heap.size)) 6 M 123 [(3, .int b)] []) : Z X 0 p l e rm_X6_envied s m args below meth c 0 0 (MQ below (QI X 0 r M s.heap.size) args s 0 0 (AA X 0 s.heap.size)) 6 M 81 [(0, .ref (X.2.2 82)), (1, .int v1), (2, .int v2), (3, .int v3), (4, .int v4)] [] := by
  unfold f_X6_envied_J44_81 at he
  refine z_iconst (v := 0) S dX6_envied_81 (by decide) ?_
  exact p_X6_envied_J44_82 S  he hc hx
set_option maxRecDepth 100000 in
set_option maxHeartbeats 4000000 in
theorem p_X6_envied_L44 {X : Cx} {p : Program} {l : Launch} {e : Env} {s : State} {m : MethodId} {args : Array Value} {below : List Frame} {meth : Method} {c : Code} (S : SB X 0 p s m args meth c cX6_envied 6 (some .int) RX6) {M : Mm} {r : Int32} {v1 : Int32} {v2 : Int32} {v3 : Int32} {v4 : Int32} {x : (Int32 × Int32) ⊕ Int32}  (he : f_X6_envied_L44 M v1 v2 v3 v4 = some x) (hc : ∀ b, x = .inl b → Z X 0 p l e rm_X6_envied s m args below meth c 0 0 (MQ below (QI X 0 r M s.heap.size) args s 0 0 (AA X 0 s.heap.size)) 6 M 44 [(0, .ref (X.2.2 82)), (1, .int v1), (2, .int v2), (3, .int b.1), (4, .int b.2)] []) (hx : ∀ b, x = .inr b → Z X 0 p l e rm_X6_envied s m args below meth c 0 0 (MQ below (QI X 0 r M s.heap.size) args s 0 0 (AA X 0 s.heap.size)) 6 M 123 [(3, .int b)] []) : Z X 0 p l e rm_X6_envied s m args below meth c 0 0 (MQ below (QI X 0 r M s.heap.size) args s 0 0 (AA X 0 s.heap.size)) 6 M 44 [(0, .ref (X.2.2 82)), (1, .int v1), (2, .int v2), (3, .int v3), (4, .int v4)] [] := by
  unfold f_X6_envied_L44 at he
  refine z_iload S dX6_envied_44 4 rfl ?_
  refine z_bipush (v := 10) S dX6_envied_46 (by decide) ?_
  refine z_icmp_ge (tgt := 123) S he dX6_envied_48 (by decide) (fun he => ?_) (fun he => ?_)
  · refine z_lv (ks := [3]) rfl ?_
    exact hx _ (Option.some.inj he).symm
  · refine z_aload_n S dX6_envied_51 rfl 0 rfl ?_
    refine z_getF (j := 85) S fo_RX6_18 3 rfl rfl ok_82 dX6_envied_52 ?_
    refine z_iload S dX6_envied_55 4 rfl ?_
    refine z_cNI (As := [.ref (X.2.2 85), .int v4]) S cn_RX6_55 (Kt_X9_at ok_85 rfl) ⟨rfl, rfl⟩ ⟨Nat.le_of_ble_eq_true rfl, Nat.le_of_ble_eq_true rfl⟩ ⟨Nat.le_refl _, Nat.le_refl _⟩ rfl rfl (Nat.le_of_ble_eq_true rfl) dX6_envied_57 ?_
    refine z_iconst (v := (-1)) S dX6_envied_60 (by decide) ?_
    refine z_icmp_eq (tgt := 81) S he dX6_envied_61 (by decide) (fun he => ?_) (fun he => ?_)
    · exact p_X6_envied_J44_81 S  he hc hx
    · refine z_aload_n S dX6_envied_64 rfl 0 rfl ?_
      refine z_getF (j := 85) S fo_RX6_18 3 rfl rfl ok_82 dX6_envied_65 ?_
      refine z_iload S dX6_envied_68 4 rfl ?_
      refine z_cNI (As := [.ref (X.2.2 85), .int v4]) S cn_RX6_55 (Kt_X9_at ok_85 rfl) ⟨rfl, rfl⟩ ⟨Nat.le_of_ble_eq_true rfl, Nat.le_of_ble_eq_true rfl⟩ ⟨Nat.le_refl _, Nat.le_refl _⟩ rfl rfl (Nat.le_of_ble_eq_true rfl) dX6_envied_70 ?_
      refine z_iload_n S dX6_envied_73 rfl 1 rfl ?_
      refine z_icmp_eq (tgt := 81) S he dX6_envied_74 (by decide) (fun he => ?_) (fun he => ?_)
      · exact p_X6_envied_J44_81 S  he hc hx
      · refine z_iconst (v := 1) S dX6_envied_77 (by decide) ?_
        refine z_goto (tgt := 82) S dX6_envied_78 (by decide) ?_
        exact p_X6_envied_J44_82 S  he hc hx
set_option maxRecDepth 100000 in
set_option maxHeartbeats 4000000 in
theorem K_X6_envied {X : Cx} {l : Launch} {M : Mm} {a1 : Int32} {r : Int32}  (he : f_X6_envied M a1 = some r) : KI X 0 l yX6_envied (wz yX6_envied cX6_envied 6 (some .int)) rm_X6_envied [.ref (X.2.2 82), .int a1] M r M := by
  intro sz
  refine K_of (Qc := (fun sz => QI X 0 r M sz)) (own := RX6) (lv0 := [(0, .ref (X.2.2 82)), (1, .int a1)]) (by decide +kernel) rfl (Nat.le_of_ble_eq_true rfl) rfl (fun p e s m args below meth c S => ?_) sz
  · unfold f_X6_envied at he
    refine z_iconst (v := 0) S dX6_envied_0 (by decide) ?_
    refine z_istore_n (lv' := [(0, .ref (X.2.2 82)), (1, .int a1), (2, .int 0)]) S [1, 2, 0] dX6_envied_1 rfl (by decide) rfl ?_
    refine z_iconst (v := 0) S dX6_envied_2 (by decide) ?_
    refine z_istore_n (lv' := [(0, .ref (X.2.2 82)), (1, .int a1), (2, .int 0), (3, .int 0)]) S [1, 2, 3, 0] dX6_envied_3 rfl (by decide) rfl ?_
    obtain ⟨e_2, hl, he⟩ := bnd he
    have hX : Z X 0 p l e rm_X6_envied s m args below meth c 0 0 (MQ below (QI X 0 r M s.heap.size) args s 0 0 (AA X 0 s.heap.size)) 6 M 39 [(0, .ref (X.2.2 82)), (1, .int a1), (2, .int e_2)] [] := by
      refine z_iconst (v := 0) S dX6_envied_39 (by decide) ?_
      refine z_istore_n (lv' := [(0, .ref (X.2.2 82)), (1, .int a1), (2, .int e_2), (3, .int 0)]) S [1, 2, 3, 0] dX6_envied_40 rfl (by decide) rfl ?_
      refine z_iconst (v := 0) S dX6_envied_41 (by decide) ?_
      refine z_istore (lv' := [(0, .ref (X.2.2 82)), (1, .int a1), (2, .int e_2), (3, .int 0), (4, .int 0)]) S [1, 2, 3, 4, 0] dX6_envied_42 (by decide) rfl ?_
      obtain ⟨e_4, hl, he⟩ := bnd he
      have hX : Z X 0 p l e rm_X6_envied s m args below meth c 0 0 (MQ below (QI X 0 r M s.heap.size) args s 0 0 (AA X 0 s.heap.size)) 6 M 123 [(3, .int e_4)] [] := by
        refine z_iload_n S dX6_envied_123 rfl 0 rfl ?_
        exact z_iret S (⟨Option.some.inj he, rfl⟩) dX6_envied_124
      exact loopZ (Zh := (fun a_4 => Z X 0 p l e rm_X6_envied s m args below meth c 0 0 (MQ below (QI X 0 r M s.heap.size) args s 0 0 (AA X 0 s.heap.size)) 6 M 44 [(0, .ref (X.2.2 82)), (1, .int a1), (2, .int e_2), (3, .int a_4.1), (4, .int a_4.2)] [])) (fun a_4 x hb hc hr => p_X6_envied_L44 S  hb hc (fun b hxe => by rw [hr b hxe]; exact hX)) FU _ hl
    exact loopZ (Zh := (fun a_2 => Z X 0 p l e rm_X6_envied s m args below meth c 0 0 (MQ below (QI X 0 r M s.heap.size) args s 0 0 (AA X 0 s.heap.size)) 6 M 4 [(0, .ref (X.2.2 82)), (1, .int a1), (2, .int a_2.1), (3, .int a_2.2)] [])) (fun a_2 x hb hc hr => p_X6_envied_L4 S  hb hc (fun b hxe => by rw [hr b hxe]; exact hX)) FU _ hl
set_option maxRecDepth 100000 in
set_option maxHeartbeats 4000000 in
theorem p_X6_firstToRing_J9_95 {X : Cx} {p : Program} {l : Launch} {e : Env} {s : State} {m : MethodId} {args : Array Value} {below : List Frame} {meth : Method} {c : Code} (S : SB X 0 p s m args meth c cX6_firstToRing 8 (some .int) RX6) {M : Mm} {r : Int32} {v1 : Nat} {v2 : Int32} {v5 : Int32} {v6 : Int32} {x : (Int32 × Int32 × Int32) ⊕ Int32} (h_v1 : OK 0 v1 4) (he : f_X6_firstToRing_J9_95 M v1 v2 v5 v6 = some x) (hc : ∀ b, x = .inl b → Z X 0 p l e rm_X6_firstToRing s m args below meth c 0 0 (MQ below (QI X 0 r M s.heap.size) args s 0 0 (AA X 0 s.heap.size)) 8 M 9 [(0, .ref (X.2.2 82)), (1, .ref (X.2.2 v1)), (2, .int v2), (3, .int b.1), (4, .int b.2.1), (5, .int b.2.2)] []) (hx : ∀ b, x = .inr b → Z X 0 p l e rm_X6_firstToRing s m args below meth c 0 0 (MQ below (QI X 0 r M s.heap.size) args s 0 0 (AA X 0 s.heap.size)) 8 M 108 [(3, .int b)] []) : Z X 0 p l e rm_X6_firstToRing s m args below meth c 0 0 (MQ below (QI X 0 r M s.heap.size) args s 0 0 (AA X 0 s.heap.size)) 8 M 95 [(0, .ref (X.2.2 82)), (1, .ref (X.2.2 v1)), (2, .int v2), (5, .int v5), (6, .int v6)] [] := by
  unfold f_X6_firstToRing_J9_95 at he
  refine z_iload S dX6_firstToRing_95 3 rfl ?_
  refine z_istore_n (lv' := [(0, .ref (X.2.2 82)), (1, .ref (X.2.2 v1)), (2, .int v2), (3, .int v5), (5, .int v5), (6, .int v6)]) S [1, 2, 3, 0, 4, 5] dX6_firstToRing_97 rfl (by decide) rfl ?_
  refine z_iload S dX6_firstToRing_98 5 rfl ?_
  refine z_istore (lv' := [(0, .ref (X.2.2 82)), (1, .ref (X.2.2 v1)), (2, .int v2), (3, .int v5), (4, .int v6), (5, .int v5)]) S [1, 2, 3, 4, 0, 5] dX6_firstToRing_100 (by decide) rfl ?_
  refine z_iinc (v := (v5 + 1)) (lv' := [(0, .ref (X.2.2 82)), (1, .ref (X.2.2 v1)), (2, .int v2), (3, .int v5), (4, .int v6), (5, .int (v5 + 1))]) S [1, 2, 3, 4, 5, 0] 5 dX6_firstToRing_102 rfl (by rfl) (by decide) rfl ?_
  refine z_goto (tgt := 9) S dX6_firstToRing_105 (by decide) ?_
  refine z_lv (ks := [0, 1, 2, 3, 4, 5]) rfl ?_
  exact hc _ (Option.some.inj he).symm
set_option maxRecDepth 100000 in
set_option maxHeartbeats 4000000 in
theorem p_X6_firstToRing_J9_81 {X : Cx} {p : Program} {l : Launch} {e : Env} {s : State} {m : MethodId} {args : Array Value} {below : List Frame} {meth : Method} {c : Code} (S : SB X 0 p s m args meth c cX6_firstToRing 8 (some .int) RX6) {M : Mm} {r : Int32} {v1 : Nat} {v2 : Int32} {v3 : Int32} {v4 : Int32} {v5 : Int32} {v6 : Int32} {t0 : Int32} {x : (Int32 × Int32 × Int32) ⊕ Int32} (h_v1 : OK 0 v1 4) (he : f_X6_firstToRing_J9_81 M v1 v2 v3 v4 v5 v6 t0 = some x) (hc : ∀ b, x = .inl b → Z X 0 p l e rm_X6_firstToRing s m args below meth c 0 0 (MQ below (QI X 0 r M s.heap.size) args s 0 0 (AA X 0 s.heap.size)) 8 M 9 [(0, .ref (X.2.2 82)), (1, .ref (X.2.2 v1)), (2, .int v2), (3, .int b.1), (4, .int b.2.1), (5, .int b.2.2)] []) (hx : ∀ b, x = .inr b → Z X 0 p l e rm_X6_firstToRing s m args below meth c 0 0 (MQ below (QI X 0 r M s.heap.size) args s 0 0 (AA X 0 s.heap.size)) 8 M 108 [(3, .int b)] []) : Z X 0 p l e rm_X6_firstToRing s m args below meth c 0 0 (MQ below (QI X 0 r M s.heap.size) args s 0 0 (AA X 0 s.heap.size)) 8 M 81 [(0, .ref (X.2.2 82)), (1, .ref (X.2.2 v1)), (2, .int v2), (3, .int v3), (4, .int v4), (5, .int v5), (6, .int v6)] [.int t0] := by
  unfold f_X6_firstToRing_J9_81 at he
  refine z_istore (lv' := [(0, .ref (X.2.2 82)), (1, .ref (X.2.2 v1)), (2, .int v2), (3, .int v3), (4, .int v4), (5, .int v5), (6, .int v6), (7, .int t0)]) S [1, 2, 3, 4, 5, 6, 7, 0] dX6_firstToRing_81 (by decide) rfl ?_
  refine z_iload S dX6_firstToRing_83 6 rfl ?_
  refine z_iload S dX6_firstToRing_85 4 rfl ?_
  refine z_icmp_lt (tgt := 95) S he dX6_firstToRing_87 (by decide) (fun he => ?_) (fun he => ?_)
  · refine z_lv (ks := [0, 1, 2, 5, 6]) rfl ?_
    exact p_X6_firstToRing_J9_95 S h_v1 he hc hx
  · refine z_iload S dX6_firstToRing_90 7 rfl ?_
    refine z_if_eq (tgt := 102) S he dX6_firstToRing_92 (by decide) (fun he => ?_) (fun he => ?_)
    · refine z_iinc (v := (v5 + 1)) (lv' := [(0, .ref (X.2.2 82)), (1, .ref (X.2.2 v1)), (2, .int v2), (3, .int v3), (4, .int v4), (5, .int (v5 + 1)), (6, .int v6), (7, .int t0)]) S [1, 2, 3, 4, 5, 0, 6, 7] 5 dX6_firstToRing_102 rfl (by rfl) (by decide) rfl ?_
      refine z_goto (tgt := 9) S dX6_firstToRing_105 (by decide) ?_
      refine z_lv (ks := [0, 1, 2, 3, 4, 5]) rfl ?_
      exact hc _ (Option.some.inj he).symm
    · refine z_lv (ks := [0, 1, 2, 5, 6]) rfl ?_
      exact p_X6_firstToRing_J9_95 S h_v1 he hc hx
set_option maxRecDepth 100000 in
set_option maxHeartbeats 4000000 in
theorem p_X6_firstToRing_J9_80 {X : Cx} {p : Program} {l : Launch} {e : Env} {s : State} {m : MethodId} {args : Array Value} {below : List Frame} {meth : Method} {c : Code} (S : SB X 0 p s m args meth c cX6_firstToRing 8 (some .int) RX6) {M : Mm} {r : Int32} {v1 : Nat} {v2 : Int32} {v3 : Int32} {v4 : Int32} {v5 : Int32} {v6 : Int32} {x : (Int32 × Int32 × Int32) ⊕ Int32} (h_v1 : OK 0 v1 4) (he : f_X6_firstToRing_J9_80 M v1 v2 v3 v4 v5 v6 = some x) (hc : ∀ b, x = .inl b → Z X 0 p l e rm_X6_firstToRing s m args below meth c 0 0 (MQ below (QI X 0 r M s.heap.size) args s 0 0 (AA X 0 s.heap.size)) 8 M 9 [(0, .ref (X.2.2 82)), (1, .ref (X.2.2 v1)), (2, .int v2), (3, .int b.1), (4, .int b.2.1), (5, .int b.2.2)] []) (hx : ∀ b, x = .inr b → Z X 0 p l e rm_X6_firstToRing s m args below meth c 0 0 (MQ below (QI X 0 r M s.heap.size) args s 0 0 (AA X 0 s.heap.size)) 8 M 108 [(3, .int b)] []) : Z X 0 p l e rm_X6_firstToRing s m args below meth c 0 0 (MQ below (QI X 0 r M s.heap.size) args s 0 0 (AA X 0 s.heap.size)) 8 M 80 [(0, .ref (X.2.2 82)), (1, .ref (X.2.2 v1)), (2, .int v2), (3, .int v3), (4, .int v4), (5, .int v5), (6, .int v6)] [] := by
  unfold f_X6_firstToRing_J9_80 at he
  refine z_iconst (v := 0) S dX6_firstToRing_80 (by decide) ?_
  exact p_X6_firstToRing_J9_81 S h_v1 he hc hx
set_option maxRecDepth 100000 in
set_option maxHeartbeats 4000000 in
theorem p_X6_firstToRing_L9 {X : Cx} {p : Program} {l : Launch} {e : Env} {s : State} {m : MethodId} {args : Array Value} {below : List Frame} {meth : Method} {c : Code} (S : SB X 0 p s m args meth c cX6_firstToRing 8 (some .int) RX6) {M : Mm} {r : Int32} {v1 : Nat} {v2 : Int32} {v3 : Int32} {v4 : Int32} {v5 : Int32} {x : (Int32 × Int32 × Int32) ⊕ Int32} (h_v1 : OK 0 v1 4) (he : f_X6_firstToRing_L9 M v1 v2 v3 v4 v5 = some x) (hc : ∀ b, x = .inl b → Z X 0 p l e rm_X6_firstToRing s m args below meth c 0 0 (MQ below (QI X 0 r M s.heap.size) args s 0 0 (AA X 0 s.heap.size)) 8 M 9 [(0, .ref (X.2.2 82)), (1, .ref (X.2.2 v1)), (2, .int v2), (3, .int b.1), (4, .int b.2.1), (5, .int b.2.2)] []) (hx : ∀ b, x = .inr b → Z X 0 p l e rm_X6_firstToRing s m args below meth c 0 0 (MQ below (QI X 0 r M s.heap.size) args s 0 0 (AA X 0 s.heap.size)) 8 M 108 [(3, .int b)] []) : Z X 0 p l e rm_X6_firstToRing s m args below meth c 0 0 (MQ below (QI X 0 r M s.heap.size) args s 0 0 (AA X 0 s.heap.size)) 8 M 9 [(0, .ref (X.2.2 82)), (1, .ref (X.2.2 v1)), (2, .int v2), (3, .int v3), (4, .int v4), (5, .int v5)] [] := by
  unfold f_X6_firstToRing_L9 at he
  refine z_iload S dX6_firstToRing_9 5 rfl ?_
  refine z_aload_n S dX6_firstToRing_11 rfl 1 rfl ?_
  refine z_getI S fo_RX6_24 rfl h_v1 dX6_firstToRing_12 ?_
  refine z_icmp_ge (tgt := 108) S he dX6_firstToRing_15 (by decide) (fun he => ?_) (fun he => ?_)
  · refine z_lv (ks := [3]) rfl ?_
    exact hx _ (Option.some.inj he).symm
  · refine z_aload_n S dX6_firstToRing_18 rfl 0 rfl ?_
    refine z_getF (j := 86) S fo_RX6_21 4 rfl rfl ok_82 dX6_firstToRing_19 ?_
    refine z_iload S dX6_firstToRing_22 5 rfl ?_
    refine z_cNI (As := [.ref (X.2.2 86), .int v5]) S cn_RX6_55 (Kt_X9_at ok_86 rfl) ⟨rfl, rfl⟩ ⟨Nat.le_of_ble_eq_true rfl, Nat.le_of_ble_eq_true rfl⟩ ⟨Nat.le_refl _, Nat.le_refl _⟩ rfl rfl (Nat.le_of_ble_eq_true rfl) dX6_firstToRing_24 ?_
    refine z_if_le (tgt := 102) S he dX6_firstToRing_27 (by decide) (fun he => ?_) (fun he => ?_)
    · refine z_iinc (v := (v5 + 1)) (lv' := [(0, .ref (X.2.2 82)), (1, .ref (X.2.2 v1)), (2, .int v2), (3, .int v3), (4, .int v4), (5, .int (v5 + 1))]) S [1, 2, 3, 4, 5, 0] 5 dX6_firstToRing_102 rfl (by rfl) (by decide) rfl ?_
      refine z_goto (tgt := 9) S dX6_firstToRing_105 (by decide) ?_
      refine z_lv (ks := [0, 1, 2, 3, 4, 5]) rfl ?_
      exact hc _ (Option.some.inj he).symm
    · refine z_aload_n S dX6_firstToRing_30 rfl 0 rfl ?_
      refine z_iload S dX6_firstToRing_31 5 rfl ?_
      refine z_iload_n S dX6_firstToRing_33 rfl 2 rfl ?_
      refine z_cVI (As := [.int v5, .int v2]) S cv_RX6_76 (K_X6_calls  rfl) ok_82 (by decide) (q := (RX6, TX6, 4)) rfl rfl ⟨rfl, rfl⟩ ⟨Nat.le_of_ble_eq_true rfl, Nat.le_of_ble_eq_true rfl⟩ ⟨Nat.le_refl _, Nat.le_refl _⟩ rfl rfl (Nat.le_of_ble_eq_true rfl) dX6_firstToRing_34 ?_
      refine z_ifb_eq (tgt := 102) S he dX6_firstToRing_37 (by decide) (fun he => ?_) (fun he => ?_)
      · refine z_iinc (v := (v5 + 1)) (lv' := [(0, .ref (X.2.2 82)), (1, .ref (X.2.2 v1)), (2, .int v2), (3, .int v3), (4, .int v4), (5, .int (v5 + 1))]) S [1, 2, 3, 4, 5, 0] 5 dX6_firstToRing_102 rfl (by rfl) (by decide) rfl ?_
        refine z_goto (tgt := 9) S dX6_firstToRing_105 (by decide) ?_
        refine z_lv (ks := [0, 1, 2, 3, 4, 5]) rfl ?_
        exact hc _ (Option.some.inj he).symm
      · refine z_aload_n S dX6_firstToRing_40 rfl 1 rfl ?_
        refine z_aload_n S dX6_firstToRing_41 rfl 1 rfl ?_
        refine z_iload S dX6_firstToRing_42 5 rfl ?_
        refine z_iconst (v := 0) S dX6_firstToRing_44 (by decide) ?_
        refine z_cVI (As := [.int v5, .int 0]) S cv_RX6_65 (K_X4_ofThing h_v1 rfl) h_v1 (by decide) (q := (RX4, TX4, 10)) rfl rfl ⟨rfl, rfl⟩ ⟨Nat.le_of_ble_eq_true rfl, Nat.le_of_ble_eq_true rfl⟩ ⟨Nat.le_refl _, Nat.le_refl _⟩ rfl rfl (Nat.le_of_ble_eq_true rfl) dX6_firstToRing_45 ?_
        refine z_cVI (As := [.int (f_X4_ofThing M v1 v5 0)]) S cv_RX6_79 (Kt_X4_stepOf h_v1 rfl) h_v1 (by decide) (q := (RX4, TX4, 10)) rfl rfl ⟨rfl, rfl⟩ ⟨Nat.le_of_ble_eq_true rfl, Nat.le_of_ble_eq_true rfl⟩ ⟨Nat.le_refl _, Nat.le_refl _⟩ rfl rfl (Nat.le_of_ble_eq_true rfl) dX6_firstToRing_48 ?_
        obtain ⟨x1, ex1, he⟩ := bnd he
        rw [Option.some.inj ex1]
        refine z_istore (lv' := [(0, .ref (X.2.2 82)), (1, .ref (X.2.2 v1)), (2, .int v2), (3, .int v3), (4, .int v4), (5, .int v5), (6, .int x1)]) S [1, 2, 3, 4, 5, 6, 0] dX6_firstToRing_51 (by decide) rfl ?_
        refine z_iload S dX6_firstToRing_53 6 rfl ?_
        refine z_iload S dX6_firstToRing_55 4 rfl ?_
        refine z_icmp_ne (tgt := 80) S he dX6_firstToRing_57 (by decide) (fun he => ?_) (fun he => ?_)
        · exact p_X6_firstToRing_J9_80 S h_v1 he hc hx
        · refine z_aload_n S dX6_firstToRing_60 rfl 0 rfl ?_
          refine z_iload S dX6_firstToRing_61 5 rfl ?_
          refine z_iload_n S dX6_firstToRing_63 rfl 2 rfl ?_
          refine z_cVI (As := [.int v5, .int v2]) S cv_RX6_47 (K_X6_likes  rfl) ok_82 (by decide) (q := (RX6, TX6, 4)) rfl rfl ⟨rfl, rfl⟩ ⟨Nat.le_of_ble_eq_true rfl, Nat.le_of_ble_eq_true rfl⟩ ⟨Nat.le_refl _, Nat.le_refl _⟩ rfl rfl (Nat.le_of_ble_eq_true rfl) dX6_firstToRing_64 ?_
          refine z_aload_n S dX6_firstToRing_67 rfl 0 rfl ?_
          refine z_iload_n S dX6_firstToRing_68 rfl 3 rfl ?_
          refine z_iload_n S dX6_firstToRing_69 rfl 2 rfl ?_
          refine z_cVI (As := [.int v3, .int v2]) S cv_RX6_47 (K_X6_likes  rfl) ok_82 (by decide) (q := (RX6, TX6, 4)) rfl rfl ⟨rfl, rfl⟩ ⟨Nat.le_of_ble_eq_true rfl, Nat.le_of_ble_eq_true rfl⟩ ⟨Nat.le_refl _, Nat.le_refl _⟩ rfl rfl (Nat.le_of_ble_eq_true rfl) dX6_firstToRing_70 ?_
          refine z_icmp_le (tgt := 80) S he dX6_firstToRing_73 (by decide) (fun he => ?_) (fun he => ?_)
          · exact p_X6_firstToRing_J9_80 S h_v1 he hc hx
          · refine z_iconst (v := 1) S dX6_firstToRing_76 (by decide) ?_
            refine z_goto (tgt := 81) S dX6_firstToRing_77 (by decide) ?_
            exact p_X6_firstToRing_J9_81 S h_v1 he hc hx
set_option maxRecDepth 100000 in
set_option maxHeartbeats 4000000 in
theorem K_X6_firstToRing {X : Cx} {l : Launch} {M : Mm} {a1 : Nat} {a2 : Int32} {r : Int32} (h_a1 : OK 0 a1 4) (he : f_X6_firstToRing M a1 a2 = some r) : KI X 0 l yX6_firstToRing (wz yX6_firstToRing cX6_firstToRing 8 (some .int)) rm_X6_firstToRing [.ref (X.2.2 82), .ref (X.2.2 a1), .int a2] M r M := by
  intro sz
  refine K_of (Qc := (fun sz => QI X 0 r M sz)) (own := RX6) (lv0 := [(0, .ref (X.2.2 82)), (1, .ref (X.2.2 a1)), (2, .int a2)]) (by decide +kernel) rfl (Nat.le_of_ble_eq_true rfl) rfl (fun p e s m args below meth c S => ?_) sz
  · unfold f_X6_firstToRing at he
    refine z_iconst (v := (-1)) S dX6_firstToRing_0 (by decide) ?_
    refine z_istore_n (lv' := [(0, .ref (X.2.2 82)), (1, .ref (X.2.2 a1)), (2, .int a2), (3, .int (-1))]) S [1, 2, 3, 0] dX6_firstToRing_1 rfl (by decide) rfl ?_
    refine z_bipush (v := 20) S dX6_firstToRing_2 (by decide) ?_
    refine z_istore (lv' := [(0, .ref (X.2.2 82)), (1, .ref (X.2.2 a1)), (2, .int a2), (3, .int (-1)), (4, .int 20)]) S [1, 2, 3, 4, 0] dX6_firstToRing_4 (by decide) rfl ?_
    refine z_iconst (v := 0) S dX6_firstToRing_6 (by decide) ?_
    refine z_istore (lv' := [(0, .ref (X.2.2 82)), (1, .ref (X.2.2 a1)), (2, .int a2), (3, .int (-1)), (4, .int 20), (5, .int 0)]) S [1, 2, 3, 4, 5, 0] dX6_firstToRing_7 (by decide) rfl ?_
    obtain ⟨e_2, hl, he⟩ := bnd he
    have hX : Z X 0 p l e rm_X6_firstToRing s m args below meth c 0 0 (MQ below (QI X 0 r M s.heap.size) args s 0 0 (AA X 0 s.heap.size)) 8 M 108 [(3, .int e_2)] [] := by
      refine z_iload_n S dX6_firstToRing_108 rfl 0 rfl ?_
      exact z_iret S (⟨Option.some.inj he, rfl⟩) dX6_firstToRing_109
    exact loopZ (Zh := (fun a_2 => Z X 0 p l e rm_X6_firstToRing s m args below meth c 0 0 (MQ below (QI X 0 r M s.heap.size) args s 0 0 (AA X 0 s.heap.size)) 8 M 9 [(0, .ref (X.2.2 82)), (1, .ref (X.2.2 a1)), (2, .int a2), (3, .int a_2.1), (4, .int a_2.2.1), (5, .int a_2.2.2)] [])) (fun a_2 x hb hc hr => p_X6_firstToRing_L9 S h_a1 hb hc (fun b hxe => by rw [hr b hxe]; exact hX)) FU _ hl
set_option maxRecDepth 100000 in
set_option maxHeartbeats 4000000 in
theorem p_X6_hadAtAll_L4 {X : Cx} {p : Program} {l : Launch} {e : Env} {s : State} {m : MethodId} {args : Array Value} {below : List Frame} {meth : Method} {c : Code} (S : SB X 0 p s m args meth c cX6_hadAtAll 3 (some .int) RX6) {M : Mm} {r : Int32} {v1 : Int32} {v2 : Int32} {x : (Int32 × Int32) ⊕ Int32}  (he : f_X6_hadAtAll_L4 M v1 v2 = some x) (hc : ∀ b, x = .inl b → Z X 0 p l e rm_X6_hadAtAll s m args below meth c 0 0 (MQ below (QI X 0 r M s.heap.size) args s 0 0 (AA X 0 s.heap.size)) 3 M 4 [(0, .ref (X.2.2 82)), (1, .int b.1), (2, .int b.2)] []) (hx : ∀ b, x = .inr b → Z X 0 p l e rm_X6_hadAtAll s m args below meth c 0 0 (MQ below (QI X 0 r M s.heap.size) args s 0 0 (AA X 0 s.heap.size)) 3 M 34 [(1, .int b)] []) : Z X 0 p l e rm_X6_hadAtAll s m args below meth c 0 0 (MQ below (QI X 0 r M s.heap.size) args s 0 0 (AA X 0 s.heap.size)) 3 M 4 [(0, .ref (X.2.2 82)), (1, .int v1), (2, .int v2)] [] := by
  unfold f_X6_hadAtAll_L4 at he
  refine z_iload_n S dX6_hadAtAll_4 rfl 2 rfl ?_
  refine z_bipush (v := 10) S dX6_hadAtAll_5 (by decide) ?_
  refine z_icmp_ge (tgt := 34) S he dX6_hadAtAll_7 (by decide) (fun he => ?_) (fun he => ?_)
  · refine z_lv (ks := [1]) rfl ?_
    exact hx _ (Option.some.inj he).symm
  · refine z_aload_n S dX6_hadAtAll_10 rfl 0 rfl ?_
    refine z_getF (j := 85) S fo_RX6_18 3 rfl rfl ok_82 dX6_hadAtAll_11 ?_
    refine z_iload_n S dX6_hadAtAll_14 rfl 2 rfl ?_
    refine z_cNI (As := [.ref (X.2.2 85), .int v2]) S cn_RX6_55 (Kt_X9_at ok_85 rfl) ⟨rfl, rfl⟩ ⟨Nat.le_of_ble_eq_true rfl, Nat.le_of_ble_eq_true rfl⟩ ⟨Nat.le_refl _, Nat.le_refl _⟩ rfl rfl (Nat.le_of_ble_eq_true rfl) dX6_hadAtAll_15 ?_
    refine z_iconst (v := (-1)) S dX6_hadAtAll_18 (by decide) ?_
    refine z_icmp_eq (tgt := 28) S he dX6_hadAtAll_19 (by decide) (fun he => ?_) (fun he => ?_)
    · refine z_iinc (v := (v2 + 1)) (lv' := [(0, .ref (X.2.2 82)), (1, .int v1), (2, .int (v2 + 1))]) S [1, 2, 0] 2 dX6_hadAtAll_28 rfl (by rfl) (by decide) rfl ?_
      refine z_goto (tgt := 4) S dX6_hadAtAll_31 (by decide) ?_
      refine z_lv (ks := [0, 1, 2]) rfl ?_
      exact hc _ (Option.some.inj he).symm
    · refine z_iload_n S dX6_hadAtAll_22 rfl 1 rfl ?_
      refine z_iconst (v := 1) S dX6_hadAtAll_23 (by decide) ?_
      refine z_iload_n S dX6_hadAtAll_24 rfl 2 rfl ?_
      refine z_ishl S dX6_hadAtAll_25 ?_
      refine z_ior S dX6_hadAtAll_26 ?_
      obtain ⟨x1, ex1, he⟩ := bnd he
      rw [Option.some.inj ex1]
      refine z_istore_n (lv' := [(0, .ref (X.2.2 82)), (1, .int x1), (2, .int v2)]) S [1, 0, 2] dX6_hadAtAll_27 rfl (by decide) rfl ?_
      refine z_iinc (v := (v2 + 1)) (lv' := [(0, .ref (X.2.2 82)), (1, .int x1), (2, .int (v2 + 1))]) S [1, 2, 0] 2 dX6_hadAtAll_28 rfl (by rfl) (by decide) rfl ?_
      refine z_goto (tgt := 4) S dX6_hadAtAll_31 (by decide) ?_
      refine z_lv (ks := [0, 1, 2]) rfl ?_
      exact hc _ (Option.some.inj he).symm
set_option maxRecDepth 100000 in
set_option maxHeartbeats 4000000 in
theorem K_X6_hadAtAll {X : Cx} {l : Launch} {M : Mm} {r : Int32}  (he : f_X6_hadAtAll M  = some r) : KI X 0 l yX6_hadAtAll (wz yX6_hadAtAll cX6_hadAtAll 3 (some .int)) rm_X6_hadAtAll [.ref (X.2.2 82)] M r M := by
  intro sz
  refine K_of (Qc := (fun sz => QI X 0 r M sz)) (own := RX6) (lv0 := [(0, .ref (X.2.2 82))]) (by decide +kernel) rfl (Nat.le_of_ble_eq_true rfl) rfl (fun p e s m args below meth c S => ?_) sz
  · unfold f_X6_hadAtAll at he
    refine z_iconst (v := 0) S dX6_hadAtAll_0 (by decide) ?_
    refine z_istore_n (lv' := [(0, .ref (X.2.2 82)), (1, .int 0)]) S [1, 0] dX6_hadAtAll_1 rfl (by decide) rfl ?_
    refine z_iconst (v := 0) S dX6_hadAtAll_2 (by decide) ?_
    refine z_istore_n (lv' := [(0, .ref (X.2.2 82)), (1, .int 0), (2, .int 0)]) S [1, 2, 0] dX6_hadAtAll_3 rfl (by decide) rfl ?_
    obtain ⟨e_2, hl, he⟩ := bnd he
    have hX : Z X 0 p l e rm_X6_hadAtAll s m args below meth c 0 0 (MQ below (QI X 0 r M s.heap.size) args s 0 0 (AA X 0 s.heap.size)) 3 M 34 [(1, .int e_2)] [] := by
      refine z_iload_n S dX6_hadAtAll_34 rfl 0 rfl ?_
      exact z_iret S (⟨Option.some.inj he, rfl⟩) dX6_hadAtAll_35
    exact loopZ (Zh := (fun a_2 => Z X 0 p l e rm_X6_hadAtAll s m args below meth c 0 0 (MQ below (QI X 0 r M s.heap.size) args s 0 0 (AA X 0 s.heap.size)) 3 M 4 [(0, .ref (X.2.2 82)), (1, .int a_2.1), (2, .int a_2.2)] [])) (fun a_2 x hb hc hr => p_X6_hadAtAll_L4 S  hb hc (fun b hxe => by rw [hr b hxe]; exact hX)) FU _ hl
