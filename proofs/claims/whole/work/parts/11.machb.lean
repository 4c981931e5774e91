set_option maxRecDepth 100000 in
set_option maxHeartbeats 4000000 in
theorem K_X10_isIn {X : Cx} {l : Launch} {M : Mm} {a0 : Int32} {a1 : Int32} {a2 : Int32} {r : Bool}  (he : f_X10_isIn M a0 a1 a2 = r) : KI X 1 l yX10_isIn (wz yX10_isIn cX10_isIn 3 (some .boolean)) rm_X10_isIn [.int a0, .int a1, .int a2] M (bI r) M := by
  intro sz
  refine K_of (Qc := (fun sz => QI X 1 (bI r) M sz)) (own := RX10) (lv0 := [(0, .int a0), (1, .int a1), (2, .int a2)]) (by decide +kernel) rfl (Nat.le_of_ble_eq_true rfl) rfl (fun p e s m args below meth c S => ?_) sz
  · unfold f_X10_isIn at he
    refine z_iload_n S dX10_isIn_0 rfl 0 rfl ?_
    refine z_iload_n S dX10_isIn_1 rfl 1 rfl ?_
    refine z_icmp_lt (tgt := 14) S he dX10_isIn_2 (by decide) (fun he => ?_) (fun he => ?_)
    · refine z_iconst (v := 0) S dX10_isIn_14 (by decide) ?_
      exact z_zret0 S (⟨he, rfl⟩) dX10_isIn_15
    · refine z_iload_n S dX10_isIn_5 rfl 0 rfl ?_
      refine z_iload_n S dX10_isIn_6 rfl 2 rfl ?_
      refine z_icmp_gt (tgt := 14) S he dX10_isIn_7 (by decide) (fun he => ?_) (fun he => ?_)
      · refine z_iconst (v := 0) S dX10_isIn_14 (by decide) ?_
        exact z_zret0 S (⟨he, rfl⟩) dX10_isIn_15
      · refine z_iconst (v := 1) S dX10_isIn_10 (by decide) ?_
        refine z_goto (tgt := 15) S dX10_isIn_11 (by decide) ?_
        exact z_zret1 S (⟨he, rfl⟩) dX10_isIn_15
set_option maxRecDepth 100000 in
set_option maxHeartbeats 4000000 in
theorem K_X10_isVisitor {X : Cx} {l : Launch} {M : Mm} {a1 : Int32} {r : Bool}  (he : f_X10_isVisitor M a1 = some r) : KI X 1 l yX10_isVisitor (wz yX10_isVisitor cX10_isVisitor 2 (some .boolean)) rm_X10_isVisitor [.ref (X.2.2 109), .int a1] M (bI r) M := by
  intro sz
  refine K_of (Qc := (fun sz => QI X 1 (bI r) M sz)) (own := RX10) (lv0 := [(0, .ref (X.2.2 109)), (1, .int a1)]) (by decide +kernel) rfl (Nat.le_of_ble_eq_true rfl) rfl (fun p e s m args below meth c S => ?_) sz
  · unfold f_X10_isVisitor at he
    refine z_iload_n S dX10_isVisitor_0 rfl 1 rfl ?_
    refine z_iconst (v := 0) S dX10_isVisitor_1 (by decide) ?_
    refine z_aload_n S dX10_isVisitor_2 rfl 0 rfl ?_
    refine z_getF (j := 110) S fo_RX10_7 1 rfl rfl ok_109 dX10_isVisitor_3 ?_
    refine z_iconst (v := 4) S dX10_isVisitor_6 (by decide) ?_
    refine z_iald S ok_110 rfl he dX10_isVisitor_7 (fun he => ?_)
    refine z_iconst (v := 1) S dX10_isVisitor_8 (by decide) ?_
    refine z_isub S dX10_isVisitor_9 ?_
    refine z_cSI (As := [.int a1, .int 0, .int ((gA M 110 4) - 1)]) S cs_RX10_66 (K_X10_isIn  rfl) ⟨rfl, rfl⟩ ⟨Nat.le_of_ble_eq_true rfl, Nat.le_of_ble_eq_true rfl⟩ ⟨Nat.le_refl _, Nat.le_refl _⟩ rfl rfl (Nat.le_of_ble_eq_true rfl) dX10_isVisitor_10 ?_
    exact z_zret S (⟨Option.some.inj he, rfl⟩) dX10_isVisitor_13
set_option maxRecDepth 100000 in
set_option maxHeartbeats 4000000 in
theorem K_X10_ofOne {X : Cx} {l : Launch} {M : Mm} {a1 : Int32} {a2 : Int32} {r : Int32}  (he : f_X10_ofOne M a1 a2 = some r) : KI X 1 l yX10_ofOne (wz yX10_ofOne cX10_ofOne 3 (some .int)) rm_X10_ofOne [.ref (X.2.2 109), .int a1, .int a2] M r M := by
  intro sz
  refine K_of (Qc := (fun sz => QI X 1 r M sz)) (own := RX10) (lv0 := [(0, .ref (X.2.2 109)), (1, .int a1), (2, .int a2)]) (by decide +kernel) rfl (Nat.le_of_ble_eq_true rfl) rfl (fun p e s m args below meth c S => ?_) sz
  · unfold f_X10_ofOne at he
    refine z_aload_n S dX10_ofOne_0 rfl 0 rfl ?_
    refine z_getF (j := 110) S fo_RX10_7 1 rfl rfl ok_109 dX10_ofOne_1 ?_
    refine z_bipush (v := 57) S dX10_ofOne_4 (by decide) ?_
    refine z_iconst (v := 5) S dX10_ofOne_6 (by decide) ?_
    refine z_iload_n S dX10_ofOne_7 rfl 1 rfl ?_
    refine z_imul S dX10_ofOne_8 ?_
    refine z_iadd S dX10_ofOne_9 ?_
    refine z_iload_n S dX10_ofOne_10 rfl 2 rfl ?_
    refine z_iadd S dX10_ofOne_11 ?_
    refine z_iald S ok_110 rfl he dX10_ofOne_12 (fun he => ?_)
    exact z_iret S (⟨Option.some.inj he, rfl⟩) dX10_ofOne_13
set_option maxRecDepth 100000 in
set_option maxHeartbeats 4000000 in
theorem K_X10_of {X : Cx} {l : Launch} {M : Mm} {a1 : Int32} {a2 : Int32} {r : Int32}  (he : f_X10_of M a1 a2 = some r) : KI X 1 l yX10_of (wz yX10_of cX10_of 3 (some .int)) rm_X10_of [.ref (X.2.2 109), .int a1, .int a2] M r M := by
  intro sz
  refine K_of (Qc := (fun sz => QI X 1 r M sz)) (own := RX10) (lv0 := [(0, .ref (X.2.2 109)), (1, .int a1), (2, .int a2)]) (by decide +kernel) rfl (Nat.le_of_ble_eq_true rfl) rfl (fun p e s m args below meth c S => ?_) sz
  · unfold f_X10_of at he
    refine z_aload_n S dX10_of_0 rfl 0 rfl ?_
    refine z_getF (j := 110) S fo_RX10_7 1 rfl rfl ok_109 dX10_of_1 ?_
    refine z_bipush (v := 12) S dX10_of_4 (by decide) ?_
    refine z_iconst (v := 5) S dX10_of_6 (by decide) ?_
    refine z_iload_n S dX10_of_7 rfl 1 rfl ?_
    refine z_imul S dX10_of_8 ?_
    refine z_iadd S dX10_of_9 ?_
    refine z_iload_n S dX10_of_10 rfl 2 rfl ?_
    refine z_iadd S dX10_of_11 ?_
    refine z_iald S ok_110 rfl he dX10_of_12 (fun he => ?_)
    exact z_iret S (⟨Option.some.inj he, rfl⟩) dX10_of_13
set_option maxRecDepth 100000 in
set_option maxHeartbeats 4000000 in
theorem K_X10_letter {X : Cx} {l : Launch} {M : Mm} {a1 : Int32} {r : Int32}  (he : f_X10_letter M a1 = some r) : KI X 1 l yX10_letter (wz yX10_letter cX10_letter 2 (some .int)) rm_X10_letter [.ref (X.2.2 109), .int a1] M r M := by
  intro sz
  refine K_of (Qc := (fun sz => QI X 1 r M sz)) (own := RX10) (lv0 := [(0, .ref (X.2.2 109)), (1, .int a1)]) (by decide +kernel) rfl (Nat.le_of_ble_eq_true rfl) rfl (fun p e s m args below meth c S => ?_) sz
  · unfold f_X10_letter at he
    refine z_aload_n S dX10_letter_0 rfl 0 rfl ?_
    refine z_getI S fo_RX10_77 rfl ok_109 dX10_letter_1 ?_
    refine z_iconst (v := (-1)) S dX10_letter_4 (by decide) ?_
    refine z_icmp_ne (tgt := 17) S he dX10_letter_5 (by decide) (fun he => ?_) (fun he => ?_)
    · refine z_aload_n S dX10_letter_17 rfl 0 rfl ?_
      refine z_getF (j := 110) S fo_RX10_7 1 rfl rfl ok_109 dX10_letter_18 ?_
      refine z_aload_n S dX10_letter_21 rfl 0 rfl ?_
      refine z_getI S fo_RX10_77 rfl ok_109 dX10_letter_22 ?_
      refine z_iload_n S dX10_letter_25 rfl 1 rfl ?_
      refine z_iadd S dX10_letter_26 ?_
      refine z_iald S ok_110 rfl he dX10_letter_27 (fun he => ?_)
      exact z_iret S (⟨Option.some.inj he, rfl⟩) dX10_letter_28
    · refine z_aload_n S dX10_letter_8 rfl 0 rfl ?_
      refine z_getF (j := 114) S fo_RX10_22 5 rfl rfl ok_109 dX10_letter_9 ?_
      refine z_iload_n S dX10_letter_12 rfl 1 rfl ?_
      refine z_iald S ok_114 rfl he dX10_letter_13 (fun he => ?_)
      refine z_goto (tgt := 28) S dX10_letter_14 (by decide) ?_
      exact z_iret S (⟨Option.some.inj he, rfl⟩) dX10_letter_28
set_option maxRecDepth 100000 in
set_option maxHeartbeats 4000000 in
theorem p_X10_skip_L0 {X : Cx} {p : Program} {l : Launch} {e : Env} {s : State} {m : MethodId} {args : Array Value} {below : List Frame} {meth : Method} {c : Code} (S : SB X 1 p s m args meth c cX10_skip 1 none RX10) {M : Mm} {N : Mm} {x : Mm ⊕ Mm}  (he : f_X10_skip_L0 M  = some x) (hc : ∀ b, x = .inl b → Z X 1 p l e rm_X10_skip s m args below meth c 0 0 (MQ below (QV X 1 N s.heap.size) args s 0 0 (AA X 1 s.heap.size)) 1 b 0 [(0, .ref (X.2.2 109))] []) (hx : ∀ b, x = .inr b → Z X 1 p l e rm_X10_skip s m args below meth c 0 0 (MQ below (QV X 1 N s.heap.size) args s 0 0 (AA X 1 s.heap.size)) 1 b 37 [] []) : Z X 1 p l e rm_X10_skip s m args below meth c 0 0 (MQ below (QV X 1 N s.heap.size) args s 0 0 (AA X 1 s.heap.size)) 1 M 0 [(0, .ref (X.2.2 109))] [] := by
  unfold f_X10_skip_L0 at he
  refine z_aload_n S dX10_skip_0 rfl 0 rfl ?_
  refine z_getI S fo_RX10_80 rfl ok_109 dX10_skip_1 ?_
  refine z_aload_n S dX10_skip_4 rfl 0 rfl ?_
  refine z_getI S fo_RX10_83 rfl ok_109 dX10_skip_5 ?_
  refine z_icmp_ge (tgt := 37) S he dX10_skip_8 (by decide) (fun he => ?_) (fun he => ?_)
  · refine z_lv (ks := []) rfl ?_
    exact hx _ (Option.some.inj he).symm
  · refine z_aload_n S dX10_skip_11 rfl 0 rfl ?_
    refine z_aload_n S dX10_skip_12 rfl 0 rfl ?_
    refine z_getI S fo_RX10_80 rfl ok_109 dX10_skip_13 ?_
    obtain ⟨r1, h9, he⟩ := bnd he
    refine z_cVI (As := [.int (gI M 109 11)]) S cv_RX10_86 (K_X10_letter  h9) ok_109 (by decide) (q := (RX10, TX10, 28)) rfl rfl ⟨rfl, rfl⟩ ⟨Nat.le_of_ble_eq_true rfl, Nat.le_of_ble_eq_true rfl⟩ ⟨Nat.le_refl _, Nat.le_refl _⟩ rfl rfl (Nat.le_of_ble_eq_true rfl) dX10_skip_16 ?_
    refine z_bipush (v := 32) S dX10_skip_19 (by decide) ?_
    refine z_icmp_ne (tgt := 37) S he dX10_skip_21 (by decide) (fun he => ?_) (fun he => ?_)
    · refine z_lv (ks := []) rfl ?_
      exact hx _ (Option.some.inj he).symm
    · refine z_aload_n S dX10_skip_24 rfl 0 rfl ?_
      refine z_dup S rfl dX10_skip_25 ?_
      refine z_getI S fo_RX10_80 rfl ok_109 dX10_skip_26 ?_
      refine z_iconst (v := 1) S dX10_skip_29 (by decide) ?_
      refine z_iadd S dX10_skip_30 ?_
      refine z_putIb S fo_RX10_80p rfl ok_109 rfl rfl he dX10_skip_31 (fun M2 he => ?_)
      refine z_goto (tgt := 0) S dX10_skip_34 (by decide) ?_
      refine z_lv (ks := [0]) rfl ?_
      exact hc _ (Option.some.inj he).symm
set_option maxRecDepth 100000 in
set_option maxHeartbeats 4000000 in
theorem K_X10_skip {X : Cx} {l : Launch} {M : Mm} {N : Mm}  (he : f_X10_skip M  = some N) : KV X 1 l yX10_skip (wz yX10_skip cX10_skip 1 none) rm_X10_skip [.ref (X.2.2 109)] M N := by
  intro sz
  refine K_of (Qc := (fun sz => QV X 1 N sz)) (own := RX10) (lv0 := [(0, .ref (X.2.2 109))]) (by decide +kernel) rfl (Nat.le_of_ble_eq_true rfl) rfl (fun p e s m args below meth c S => ?_) sz
  · unfold f_X10_skip at he
    obtain ⟨e_3, hl, he⟩ := bnd he
    have hX : Z X 1 p l e rm_X10_skip s m args below meth c 0 0 (MQ below (QV X 1 N s.heap.size) args s 0 0 (AA X 1 s.heap.size)) 1 e_3 37 [] [] := by
      exact z_vret S (Option.some.inj he) dX10_skip_37
    have hZ9 := loopZ (f := (fun a_3 => f_X10_skip_L0 a_3 )) (Zh := (fun a_3 => Z X 1 p l e rm_X10_skip s m args below meth c 0 0 (MQ below (QV X 1 N s.heap.size) args s 0 0 (AA X 1 s.heap.size)) 1 a_3 0 [(0, .ref (X.2.2 109))] [])) (fun a_3 x hb hc hr => p_X10_skip_L0 S  hb hc (fun b hxe => by rw [hr b hxe]; exact hX)) FU M hl
    exact hZ9
set_option maxRecDepth 100000 in
set_option maxHeartbeats 4000000 in
theorem K_X10_wrong {X : Cx} {l : Launch} {M : Mm} {a1 : Int32} {N : Mm}  (he : f_X10_wrong M a1 = N) : KV X 1 l yX10_wrong (wz yX10_wrong cX10_wrong 2 none) rm_X10_wrong [.ref (X.2.2 109), .int a1] M N := by
  intro sz
  refine K_of (Qc := (fun sz => QV X 1 N sz)) (own := RX10) (lv0 := [(0, .ref (X.2.2 109)), (1, .int a1)]) (by decide +kernel) rfl (Nat.le_of_ble_eq_true rfl) rfl (fun p e s m args below meth c S => ?_) sz
  · unfold f_X10_wrong at he
    refine z_aload_n S dX10_wrong_0 rfl 0 rfl ?_
    refine z_getI S fo_RX10_25 rfl ok_109 dX10_wrong_1 ?_
    refine z_iconst (v := (-1)) S dX10_wrong_4 (by decide) ?_
    refine z_icmp_ne (tgt := 13) S he dX10_wrong_5 (by decide) (fun he => ?_) (fun he => ?_)
    · exact z_vret S (he) dX10_wrong_13
    · refine z_aload_n S dX10_wrong_8 rfl 0 rfl ?_
      refine z_iload_n S dX10_wrong_9 rfl 1 rfl ?_
      refine z_putI S fo_RX10_25p rfl ok_109 rfl rfl dX10_wrong_10 ?_
      exact z_vret S (he) dX10_wrong_13
set_option maxRecDepth 100000 in
set_option maxHeartbeats 4000000 in
theorem p_X10_says_L9 {X : Cx} {p : Program} {l : Launch} {e : Env} {s : State} {m : MethodId} {args : Array Value} {below : List Frame} {meth : Method} {c : Code} (S : SB X 1 p s m args meth c cX10_says 4 (some .boolean) RX10) {M : Mm} {N : Mm} {r : Bool} {v1 : Nat} {v2 : Int32} {x : Int32 ⊕ Int32} (h_v1 : isT v1 = true) (he : f_X10_says_L9 M v1 v2 = some x) (hc : ∀ b, x = .inl b → Z X 1 p l e rm_X10_says s m args below meth c 0 0 (MQ below (QI X 1 (bI r) N s.heap.size) args s 0 0 (AA X 1 s.heap.size)) 4 M 9 [(0, .ref (X.2.2 109)), (1, .ref (X.2.2 v1)), (2, .int b)] []) (hx : ∀ b, x = .inr b → Z X 1 p l e rm_X10_says s m args below meth c 0 0 (MQ below (QI X 1 (bI r) N s.heap.size) args s 0 0 (AA X 1 s.heap.size)) 4 M 38 [(0, .ref (X.2.2 109)), (1, .ref (X.2.2 v1)), (2, .int b)] []) : Z X 1 p l e rm_X10_says s m args below meth c 0 0 (MQ below (QI X 1 (bI r) N s.heap.size) args s 0 0 (AA X 1 s.heap.size)) 4 M 9 [(0, .ref (X.2.2 109)), (1, .ref (X.2.2 v1)), (2, .int v2)] [] := by
  unfold f_X10_says_L9 at he
  refine z_iload_n S dX10_says_9 rfl 2 rfl ?_
  refine z_aload_n S dX10_says_10 rfl 0 rfl ?_
  refine z_getI S fo_RX10_83 rfl ok_109 dX10_says_11 ?_
  refine z_icmp_ge (tgt := 38) S he dX10_says_14 (by decide) (fun he => ?_) (fun he => ?_)
  · refine z_lv (ks := [0, 1, 2]) rfl ?_
    exact hx _ (Option.some.inj he).symm
  · refine z_aload_n S dX10_says_17 rfl 0 rfl ?_
    refine z_iload_n S dX10_says_18 rfl 2 rfl ?_
    obtain ⟨r2, h9, he⟩ := bnd he
    refine z_cVI (As := [.int v2]) S cv_RX10_86 (K_X10_letter  h9) ok_109 (by decide) (q := (RX10, TX10, 28)) rfl rfl ⟨rfl, rfl⟩ ⟨Nat.le_of_ble_eq_true rfl, Nat.le_of_ble_eq_true rfl⟩ ⟨Nat.le_refl _, Nat.le_refl _⟩ rfl rfl (Nat.le_of_ble_eq_true rfl) dX10_says_19 ?_
    refine z_bipush (v := 97) S dX10_says_22 (by decide) ?_
    refine z_bipush (v := 122) S dX10_says_24 (by decide) ?_
    refine z_cSI (As := [.int r2, .int 97, .int 122]) S cs_RX10_66 (K_X10_isIn  rfl) ⟨rfl, rfl⟩ ⟨Nat.le_of_ble_eq_true rfl, Nat.le_of_ble_eq_true rfl⟩ ⟨Nat.le_refl _, Nat.le_refl _⟩ rfl rfl (Nat.le_of_ble_eq_true rfl) dX10_says_26 ?_
    refine z_ifb_eq (tgt := 38) S he dX10_says_29 (by decide) (fun he => ?_) (fun he => ?_)
    · refine z_lv (ks := [0, 1, 2]) rfl ?_
      exact hx _ (Option.some.inj he).symm
    · refine z_iinc (v := (v2 + 1)) (lv' := [(0, .ref (X.2.2 109)), (1, .ref (X.2.2 v1)), (2, .int (v2 + 1))]) S [1, 2, 0] 2 dX10_says_32 rfl (by rfl) (by decide) rfl ?_
      refine z_goto (tgt := 9) S dX10_says_35 (by decide) ?_
      refine z_lv (ks := [0, 1, 2]) rfl ?_
      exact hc _ (Option.some.inj he).symm
set_option maxRecDepth 100000 in
set_option maxHeartbeats 4000000 in
theorem p_X10_says_L55 {X : Cx} {p : Program} {l : Launch} {e : Env} {s : State} {m : MethodId} {args : Array Value} {below : List Frame} {meth : Method} {c : Code} (S : SB X 1 p s m args meth c cX10_says 4 (some .boolean) RX10) {M : Mm} {N : Mm} {r : Bool} {v1 : Nat} {v2 : Int32} {v3 : Int32} {x : Int32 ⊕ ((Bool × Mm) ⊕ Unit)} (h_v1 : isT v1 = true) (he : f_X10_says_L55 M v1 v2 v3 = some x) (hc : ∀ b, x = .inl b → Z X 1 p l e rm_X10_says s m args below meth c 0 0 (MQ below (QI X 1 (bI r) N s.heap.size) args s 0 0 (AA X 1 s.heap.size)) 4 M 55 [(0, .ref (X.2.2 109)), (1, .ref (X.2.2 v1)), (2, .int v2), (3, .int b)] []) (hx : ∀ b, x = .inr (.inr b) → Z X 1 p l e rm_X10_says s m args below meth c 0 0 (MQ below (QI X 1 (bI r) N s.heap.size) args s 0 0 (AA X 1 s.heap.size)) 4 M 89 [(0, .ref (X.2.2 109)), (2, .int v2)] []) (hr : ∀ v, x = .inr (.inl v) → v = (r, N)) : Z X 1 p l e rm_X10_says s m args below meth c 0 0 (MQ below (QI X 1 (bI r) N s.heap.size) args s 0 0 (AA X 1 s.heap.size)) 4 M 55 [(0, .ref (X.2.2 109)), (1, .ref (X.2.2 v1)), (2, .int v2), (3, .int v3)] [] := by
  unfold f_X10_says_L55 at he
  refine z_iload_n S dX10_says_55 rfl 3 rfl ?_
  refine z_aload_n S dX10_says_56 rfl 1 rfl ?_
  refine z_cTI (As := []) S cv_RX10_93 (K_J0_length_8abf5 h_v1 rfl) h_v1 ⟨rfl, rfl⟩ ⟨Nat.le_of_ble_eq_true rfl, Nat.le_of_ble_eq_true rfl⟩ ⟨Nat.le_refl _, Nat.le_refl _⟩ rfl rfl (Nat.le_of_ble_eq_true rfl) dX10_says_57 ?_
  refine z_icmp_ge (tgt := 89) S he dX10_says_60 (by decide) (fun he => ?_) (fun he => ?_)
  · refine z_lv (ks := [0, 2]) rfl ?_
    exact hx _ (Option.some.inj he).symm
  · refine z_aload_n S dX10_says_63 rfl 0 rfl ?_
    refine z_aload_n S dX10_says_64 rfl 0 rfl ?_
    refine z_getI S fo_RX10_80 rfl ok_109 dX10_says_65 ?_
    refine z_iload_n S dX10_says_68 rfl 3 rfl ?_
    refine z_iadd S dX10_says_69 ?_
    obtain ⟨r4, h9, he⟩ := bnd he
    refine z_cVI (As := [.int ((gI M 109 11) + v3)]) S cv_RX10_86 (K_X10_letter  h9) ok_109 (by decide) (q := (RX10, TX10, 28)) rfl rfl ⟨rfl, rfl⟩ ⟨Nat.le_of_ble_eq_true rfl, Nat.le_of_ble_eq_true rfl⟩ ⟨Nat.le_refl _, Nat.le_refl _⟩ rfl rfl (Nat.le_of_ble_eq_true rfl) dX10_says_70 ?_
    refine z_aload_n S dX10_says_73 rfl 1 rfl ?_
    refine z_iload_n S dX10_says_74 rfl 3 rfl ?_
    obtain ⟨r5, h9, he⟩ := bnd he
    refine z_cTI (As := [.int v3]) S cv_RX10_99 (K_J0_charAt_5068e h_v1 h9) h_v1 ⟨rfl, rfl⟩ ⟨Nat.le_of_ble_eq_true rfl, Nat.le_of_ble_eq_true rfl⟩ ⟨Nat.le_refl _, Nat.le_refl _⟩ rfl rfl (Nat.le_of_ble_eq_true rfl) dX10_says_75 ?_
    refine z_icmp_eq (tgt := 83) S he dX10_says_78 (by decide) (fun he => ?_) (fun he => ?_)
    · refine z_iinc (v := (v3 + 1)) (lv' := [(0, .ref (X.2.2 109)), (1, .ref (X.2.2 v1)), (2, .int v2), (3, .int (v3 + 1))]) S [1, 2, 3, 0] 3 dX10_says_83 rfl (by rfl) (by decide) rfl ?_
      refine z_goto (tgt := 55) S dX10_says_86 (by decide) ?_
      refine z_lv (ks := [0, 1, 2, 3]) rfl ?_
      exact hc _ (Option.some.inj he).symm
    · refine z_iconst (v := 0) S dX10_says_81 (by decide) ?_
      exact z_zret0 S (Prod.mk.inj (hr _ (Option.some.inj he).symm)) dX10_says_82
set_option maxRecDepth 100000 in
set_option maxHeartbeats 4000000 in
theorem K_X10_says {X : Cx} {l : Launch} {M : Mm} {a1 : Nat} {r : Bool} {N : Mm} (h_a1 : isT a1 = true) (he : f_X10_says M a1 = some (r, N)) : KI X 1 l yX10_says (wz yX10_says cX10_says 4 (some .boolean)) rm_X10_says [.ref (X.2.2 109), .ref (X.2.2 a1)] M (bI r) N := by
  intro sz
  refine K_of (Qc := (fun sz => QI X 1 (bI r) N sz)) (own := RX10) (lv0 := [(0, .ref (X.2.2 109)), (1, .ref (X.2.2 a1))]) (by decide +kernel) rfl (Nat.le_of_ble_eq_true rfl) rfl (fun p e s m args below meth c S => ?_) sz
  · unfold f_X10_says at he
    refine z_aload_n S dX10_says_0 rfl 0 rfl ?_
    obtain ⟨M1, h9, he⟩ := bnd he
    refine z_cVV (As := []) S cv_RX10_90 (K_X10_skip  h9) ok_109 (by decide) (q := (RX10, TX10, 28)) rfl rfl ⟨rfl, rfl⟩ ⟨Nat.le_of_ble_eq_true rfl, Nat.le_of_ble_eq_true rfl⟩ ⟨Nat.le_refl _, Nat.le_refl _⟩ rfl rfl (Nat.le_of_ble_eq_true rfl) dX10_says_1 ?_
    refine z_aload_n S dX10_says_4 rfl 0 rfl ?_
    refine z_getI S fo_RX10_80 rfl ok_109 dX10_says_5 ?_
    refine z_istore_n (lv' := [(0, .ref (X.2.2 109)), (1, .ref (X.2.2 a1)), (2, .int (gI M1 109 11))]) S [1, 2, 0] dX10_says_8 rfl (by decide) rfl ?_
    obtain ⟨e_3, hl, he⟩ := bnd he
    have hX : Z X 1 p l e rm_X10_says s m args below meth c 0 0 (MQ below (QI X 1 (bI r) N s.heap.size) args s 0 0 (AA X 1 s.heap.size)) 4 M1 38 [(0, .ref (X.2.2 109)), (1, .ref (X.2.2 a1)), (2, .int e_3)] [] := by
      refine z_iload_n S dX10_says_38 rfl 2 rfl ?_
      refine z_aload_n S dX10_says_39 rfl 0 rfl ?_
      refine z_getI S fo_RX10_80 rfl ok_109 dX10_says_40 ?_
      refine z_isub S dX10_says_43 ?_
      refine z_aload_n S dX10_says_44 rfl 1 rfl ?_
      refine z_cTI (As := []) S cv_RX10_93 (K_J0_length_8abf5 h_a1 rfl) h_a1 ⟨rfl, rfl⟩ ⟨Nat.le_of_ble_eq_true rfl, Nat.le_of_ble_eq_true rfl⟩ ⟨Nat.le_refl _, Nat.le_refl _⟩ rfl rfl (Nat.le_of_ble_eq_true rfl) dX10_says_45 ?_
      refine z_icmp_eq (tgt := 53) S he dX10_says_48 (by decide) (fun he => ?_) (fun he => ?_)
      · refine z_iconst (v := 0) S dX10_says_53 (by decide) ?_
        refine z_istore_n (lv' := [(0, .ref (X.2.2 109)), (1, .ref (X.2.2 a1)), (2, .int e_3), (3, .int 0)]) S [1, 2, 3, 0] dX10_says_54 rfl (by decide) rfl ?_
        obtain ⟨r9, hl, hr1, hr2⟩ := bndS he
        have hX : ∀ e_6, r9 = .inr e_6 → Z X 1 p l e rm_X10_says s m args below meth c 0 0 (MQ below (QI X 1 (bI r) N s.heap.size) args s 0 0 (AA X 1 s.heap.size)) 4 M1 89 [(0, .ref (X.2.2 109)), (2, .int e_3)] [] := by
          intro e_6 hre
          have he := hr2 e_6 hre
          refine z_aload_n S dX10_says_89 rfl 0 rfl ?_
          refine z_iload_n S dX10_says_90 rfl 1 rfl ?_
          refine z_putIb S fo_RX10_80p rfl ok_109 rfl rfl he dX10_says_91 (fun M7 he => ?_)
          refine z_iconst (v := 1) S dX10_says_94 (by decide) ?_
          exact z_zret1 S (Prod.mk.inj (Option.some.inj he)) dX10_says_95
        have hZ9 := loopZ (f := (fun a_6 => f_X10_says_L55 M1 a1 e_3 a_6)) (Zh := (fun a_6 => Z X 1 p l e rm_X10_says s m args below meth c 0 0 (MQ below (QI X 1 (bI r) N s.heap.size) args s 0 0 (AA X 1 s.heap.size)) 4 M1 55 [(0, .ref (X.2.2 109)), (1, .ref (X.2.2 a1)), (2, .int e_3), (3, .int a_6)] [])) (fun a_6 x hb hc hr9 => p_X10_says_L55 S h_a1 hb hc (fun b hxe => hX b (hr9 _ hxe).symm) (fun v hxv => Option.some.inj (hr1 v (hr9 _ hxv).symm))) FU 0 hl
        exact hZ9
      · refine z_iconst (v := 0) S dX10_says_51 (by decide) ?_
        exact z_zret0 S (Prod.mk.inj (Option.some.inj he)) dX10_says_52
    have hZ9 := loopZ (f := (fun a_3 => f_X10_says_L9 M1 a1 a_3)) (Zh := (fun a_3 => Z X 1 p l e rm_X10_says s m args below meth c 0 0 (MQ below (QI X 1 (bI r) N s.heap.size) args s 0 0 (AA X 1 s.heap.size)) 4 M1 9 [(0, .ref (X.2.2 109)), (1, .ref (X.2.2 a1)), (2, .int a_3)] [])) (fun a_3 x hb hc hr => p_X10_says_L9 S h_a1 hb hc (fun b hxe => by rw [hr b hxe]; exact hX)) FU (gI M1 109 11) hl
    exact hZ9
set_option maxRecDepth 100000 in
set_option maxHeartbeats 4000000 in
theorem K_X10_place {X : Cx} {l : Launch} {M : Mm} {r : Int32} {N : Mm}  (he : f_X10_place M  = some (r, N)) : KI X 1 l yX10_place (wz yX10_place cX10_place 1 (some .int)) rm_X10_place [.ref (X.2.2 109)] M r N := by
  intro sz
  refine K_of (Qc := (fun sz => QI X 1 r N sz)) (own := RX10) (lv0 := [(0, .ref (X.2.2 109))]) (by decide +kernel) rfl (Nat.le_of_ble_eq_true rfl) rfl (fun p e s m args below meth c S => ?_) sz
  · unfold f_X10_place at he
    refine z_aload_n S dX10_place_0 rfl 0 rfl ?_
    obtain ⟨M1, h9, he⟩ := bnd he
    refine z_cVV (As := []) S cv_RX10_90 (K_X10_skip  h9) ok_109 (by decide) (q := (RX10, TX10, 28)) rfl rfl ⟨rfl, rfl⟩ ⟨Nat.le_of_ble_eq_true rfl, Nat.le_of_ble_eq_true rfl⟩ ⟨Nat.le_refl _, Nat.le_refl _⟩ rfl rfl (Nat.le_of_ble_eq_true rfl) dX10_place_1 ?_
    refine z_aload_n S dX10_place_4 rfl 0 rfl ?_
    refine z_getI S fo_RX10_80 rfl ok_109 dX10_place_5 ?_
    exact z_iret S (Prod.mk.inj (Option.some.inj he)) dX10_place_8
set_option maxRecDepth 100000 in
set_option maxHeartbeats 4000000 in
theorem p_X10_figures_L18 {X : Cx} {p : Program} {l : Launch} {e : Env} {s : State} {m : MethodId} {args : Array Value} {below : List Frame} {meth : Method} {c : Code} (S : SB X 1 p s m args meth c cX10_figures 5 (some .int) RX10) {M : Mm} {N : Mm} {r : Int32} {v1 : Int32} {v2 : Int32} {v3 : Int32} {v4 : Int32} {x : (Mm × Int32) ⊕ (Mm × Int32)}  (he : f_X10_figures_L18 M v1 v2 v3 v4 = some x) (hc : ∀ b, x = .inl b → Z X 1 p l e rm_X10_figures s m args below meth c 0 0 (MQ below (QI X 1 r N s.heap.size) args s 0 0 (AA X 1 s.heap.size)) 5 b.1 18 [(0, .ref (X.2.2 109)), (1, .int v1), (2, .int v2), (3, .int v3), (4, .int b.2)] []) (hx : ∀ b, x = .inr b → Z X 1 p l e rm_X10_figures s m args below meth c 0 0 (MQ below (QI X 1 r N s.heap.size) args s 0 0 (AA X 1 s.heap.size)) 5 b.1 89 [(0, .ref (X.2.2 109)), (1, .int v1), (2, .int v2), (3, .int v3), (4, .int b.2)] []) : Z X 1 p l e rm_X10_figures s m args below meth c 0 0 (MQ below (QI X 1 r N s.heap.size) args s 0 0 (AA X 1 s.heap.size)) 5 M 18 [(0, .ref (X.2.2 109)), (1, .int v1), (2, .int v2), (3, .int v3), (4, .int v4)] [] := by
  unfold f_X10_figures_L18 at he
  refine z_aload_n S dX10_figures_18 rfl 0 rfl ?_
  refine z_getI S fo_RX10_80 rfl ok_109 dX10_figures_19 ?_
  refine z_aload_n S dX10_figures_22 rfl 0 rfl ?_
  refine z_getI S fo_RX10_83 rfl ok_109 dX10_figures_23 ?_
  refine z_icmp_ge (tgt := 89) S he dX10_figures_26 (by decide) (fun he => ?_) (fun he => ?_)
  · refine z_lv (ks := [0, 1, 2, 3, 4]) rfl ?_
    exact hx _ (Option.some.inj he).symm
  · refine z_aload_n S dX10_figures_29 rfl 0 rfl ?_
    refine z_aload_n S dX10_figures_30 rfl 0 rfl ?_
    refine z_getI S fo_RX10_80 rfl ok_109 dX10_figures_31 ?_
    obtain ⟨r3, h9, he⟩ := bnd he
    refine z_cVI (As := [.int (gI M 109 11)]) S cv_RX10_86 (K_X10_letter  h9) ok_109 (by decide) (q := (RX10, TX10, 28)) rfl rfl ⟨rfl, rfl⟩ ⟨Nat.le_of_ble_eq_true rfl, Nat.le_of_ble_eq_true rfl⟩ ⟨Nat.le_refl _, Nat.le_refl _⟩ rfl rfl (Nat.le_of_ble_eq_true rfl) dX10_figures_34 ?_
    refine z_bipush (v := 48) S dX10_figures_37 (by decide) ?_
    refine z_bipush (v := 57) S dX10_figures_39 (by decide) ?_
    refine z_cSI (As := [.int r3, .int 48, .int 57]) S cs_RX10_66 (K_X10_isIn  rfl) ⟨rfl, rfl⟩ ⟨Nat.le_of_ble_eq_true rfl, Nat.le_of_ble_eq_true rfl⟩ ⟨Nat.le_refl _, Nat.le_refl _⟩ rfl rfl (Nat.le_of_ble_eq_true rfl) dX10_figures_41 ?_
    refine z_ifb_eq (tgt := 89) S he dX10_figures_44 (by decide) (fun he => ?_) (fun he => ?_)
    · refine z_lv (ks := [0, 1, 2, 3, 4]) rfl ?_
      exact hx _ (Option.some.inj he).symm
    · refine z_aload_n S dX10_figures_47 rfl 0 rfl ?_
      refine z_getI S fo_RX10_80 rfl ok_109 dX10_figures_48 ?_
      refine z_iload_n S dX10_figures_51 rfl 3 rfl ?_
      refine z_isub S dX10_figures_52 ?_
      refine z_iconst (v := 3) S dX10_figures_53 (by decide) ?_
      refine z_icmp_gt (tgt := 89) S he dX10_figures_54 (by decide) (fun he => ?_) (fun he => ?_)
      · refine z_lv (ks := [0, 1, 2, 3, 4]) rfl ?_
        exact hx _ (Option.some.inj he).symm
      · refine z_bipush (v := 10) S dX10_figures_57 (by decide) ?_
        refine z_iload S dX10_figures_59 4 rfl ?_
        refine z_imul S dX10_figures_61 ?_
        refine z_aload_n S dX10_figures_62 rfl 0 rfl ?_
        refine z_aload_n S dX10_figures_63 rfl 0 rfl ?_
        refine z_getI S fo_RX10_80 rfl ok_109 dX10_figures_64 ?_
        obtain ⟨r4, h9, he⟩ := bnd he
        refine z_cVI (As := [.int (gI M 109 11)]) S cv_RX10_86 (K_X10_letter  h9) ok_109 (by decide) (q := (RX10, TX10, 28)) rfl rfl ⟨rfl, rfl⟩ ⟨Nat.le_of_ble_eq_true rfl, Nat.le_of_ble_eq_true rfl⟩ ⟨Nat.le_refl _, Nat.le_refl _⟩ rfl rfl (Nat.le_of_ble_eq_true rfl) dX10_figures_67 ?_
        refine z_iadd S dX10_figures_70 ?_
        refine z_bipush (v := 48) S dX10_figures_71 (by decide) ?_
        refine z_isub S dX10_figures_73 ?_
        refine z_istore (lv' := [(0, .ref (X.2.2 109)), (1, .int v1), (2, .int v2), (3, .int v3), (4, .int (((10 * v4) + r4) - 48))]) S [1, 2, 3, 4, 0] dX10_figures_74 (by decide) rfl ?_
        refine z_aload_n S dX10_figures_76 rfl 0 rfl ?_
        refine z_dup S rfl dX10_figures_77 ?_
        refine z_getI S fo_RX10_80 rfl ok_109 dX10_figures_78 ?_
        refine z_iconst (v := 1) S dX10_figures_81 (by decide) ?_
        refine z_iadd S dX10_figures_82 ?_
        refine z_putIb S fo_RX10_80p rfl ok_109 rfl rfl he dX10_figures_83 (fun M5 he => ?_)
        refine z_goto (tgt := 18) S dX10_figures_86 (by decide) ?_
        refine z_lv (ks := [0, 1, 2, 3, 4]) rfl ?_
        exact hc _ (Option.some.inj he).symm
set_option maxRecDepth 100000 in
set_option maxHeartbeats 4000000 in
theorem p_X10_figures_J119 {X : Cx} {p : Program} {l : Launch} {e : Env} {s : State} {m : MethodId} {args : Array Value} {below : List Frame} {meth : Method} {c : Code} (S : SB X 1 p s m args meth c cX10_figures 5 (some .int) RX10) {M : Mm} {N : Mm} {r : Int32} {v3 : Int32} {v4 : Int32}  (he : f_X10_figures_J119 M v3 v4 = some (r, N)) : Z X 1 p l e rm_X10_figures s m args below meth c 0 0 (MQ below (QI X 1 r N s.heap.size) args s 0 0 (AA X 1 s.heap.size)) 5 M 119 [(0, .ref (X.2.2 109)), (3, .int v3), (4, .int v4)] [] := by
  unfold f_X10_figures_J119 at he
  refine z_aload_n S dX10_figures_119 rfl 0 rfl ?_
  refine z_iload_n S dX10_figures_120 rfl 1 rfl ?_
  obtain ⟨M7, h9, he⟩ := bnd he
  refine z_cVV (As := [.int v3]) S cv_RX10_106 (K_X10_wrong  (Option.some.inj h9)) ok_109 (by decide) (q := (RX10, TX10, 28)) rfl rfl ⟨rfl, rfl⟩ ⟨Nat.le_of_ble_eq_true rfl, Nat.le_of_ble_eq_true rfl⟩ ⟨Nat.le_refl _, Nat.le_refl _⟩ rfl rfl (Nat.le_of_ble_eq_true rfl) dX10_figures_121 ?_
  refine z_iload S dX10_figures_124 2 rfl ?_
  exact z_iret S (Prod.mk.inj (Option.some.inj he)) dX10_figures_126
set_option maxRecDepth 100000 in
set_option maxHeartbeats 4000000 in
theorem K_X10_figures {X : Cx} {l : Launch} {M : Mm} {a1 : Int32} {a2 : Int32} {r : Int32} {N : Mm}  (he : f_X10_figures M a1 a2 = some (r, N)) : KI X 1 l yX10_figures (wz yX10_figures cX10_figures 5 (some .int)) rm_X10_figures [.ref (X.2.2 109), .int a1, .int a2] M r N := by
  intro sz
  refine K_of (Qc := (fun sz => QI X 1 r N sz)) (own := RX10) (lv0 := [(0, .ref (X.2.2 109)), (1, .int a1), (2, .int a2)]) (by decide +kernel) rfl (Nat.le_of_ble_eq_true rfl) rfl (fun p e s m args below meth c S => ?_) sz
  · unfold f_X10_figures at he
    refine z_aload_n S dX10_figures_0 rfl 0 rfl ?_
    refine z_getI S fo_RX10_25 rfl ok_109 dX10_figures_1 ?_
    refine z_iconst (v := (-1)) S dX10_figures_4 (by decide) ?_
    refine z_icmp_eq (tgt := 10) S he dX10_figures_5 (by decide) (fun he => ?_) (fun he => ?_)
    · refine z_aload_n S dX10_figures_10 rfl 0 rfl ?_
      obtain ⟨⟨r1, M2⟩, h9, he⟩ := bnd he
      dsimp only at he
      refine z_cVI (As := []) S cv_RX10_103 (K_X10_place  h9) ok_109 (by decide) (q := (RX10, TX10, 28)) rfl rfl ⟨rfl, rfl⟩ ⟨Nat.le_of_ble_eq_true rfl, Nat.le_of_ble_eq_true rfl⟩ ⟨Nat.le_refl _, Nat.le_refl _⟩ rfl rfl (Nat.le_of_ble_eq_true rfl) dX10_figures_11 ?_
      refine z_istore_n (lv' := [(0, .ref (X.2.2 109)), (1, .int a1), (2, .int a2), (3, .int r1)]) S [1, 2, 3, 0] dX10_figures_14 rfl (by decide) rfl ?_
      refine z_iconst (v := 0) S dX10_figures_15 (by decide) ?_
      refine z_istore (lv' := [(0, .ref (X.2.2 109)), (1, .int a1), (2, .int a2), (3, .int r1), (4, .int 0)]) S [1, 2, 3, 4, 0] dX10_figures_16 (by decide) rfl ?_
      obtain ⟨e_6, hl, he⟩ := bnd he
      have hX : Z X 1 p l e rm_X10_figures s m args below meth c 0 0 (MQ below (QI X 1 r N s.heap.size) args s 0 0 (AA X 1 s.heap.size)) 5 e_6.1 89 [(0, .ref (X.2.2 109)), (1, .int a1), (2, .int a2), (3, .int r1), (4, .int e_6.2)] [] := by
        refine z_aload_n S dX10_figures_89 rfl 0 rfl ?_
        refine z_getI S fo_RX10_80 rfl ok_109 dX10_figures_90 ?_
        refine z_iload_n S dX10_figures_93 rfl 3 rfl ?_
        refine z_icmp_eq (tgt := 119) S he dX10_figures_94 (by decide) (fun he => ?_) (fun he => ?_)
        · refine z_lv (ks := [0, 3, 4]) rfl ?_
          exact p_X10_figures_J119 S  he
        · refine z_aload_n S dX10_figures_97 rfl 0 rfl ?_
          refine z_getI S fo_RX10_80 rfl ok_109 dX10_figures_98 ?_
          refine z_iload_n S dX10_figures_101 rfl 3 rfl ?_
          refine z_isub S dX10_figures_102 ?_
          refine z_iconst (v := 3) S dX10_figures_103 (by decide) ?_
          refine z_icmp_gt (tgt := 119) S he dX10_figures_104 (by decide) (fun he => ?_) (fun he => ?_)
          · refine z_lv (ks := [0, 3, 4]) rfl ?_
            exact p_X10_figures_J119 S  he
          · refine z_iload S dX10_figures_107 4 rfl ?_
            refine z_iload_n S dX10_figures_109 rfl 1 rfl ?_
            refine z_icmp_lt (tgt := 119) S he dX10_figures_110 (by decide) (fun he => ?_) (fun he => ?_)
            · refine z_lv (ks := [0, 3, 4]) rfl ?_
              exact p_X10_figures_J119 S  he
            · refine z_iload S dX10_figures_113 4 rfl ?_
              refine z_iload_n S dX10_figures_115 rfl 2 rfl ?_
              refine z_icmp_le (tgt := 124) S he dX10_figures_116 (by decide) (fun he => ?_) (fun he => ?_)
              · refine z_iload S dX10_figures_124 4 rfl ?_
                exact z_iret S (Prod.mk.inj (Option.some.inj he)) dX10_figures_126
              · refine z_lv (ks := [0, 3, 4]) rfl ?_
                exact p_X10_figures_J119 S  he
      have hZ9 := loopZ (f := (fun a_6 => f_X10_figures_L18 a_6.1 a1 a2 r1 a_6.2)) (Zh := (fun a_6 => Z X 1 p l e rm_X10_figures s m args below meth c 0 0 (MQ below (QI X 1 r N s.heap.size) args s 0 0 (AA X 1 s.heap.size)) 5 a_6.1 18 [(0, .ref (X.2.2 109)), (1, .int a1), (2, .int a2), (3, .int r1), (4, .int a_6.2)] [])) (fun a_6 x hb hc hr => p_X10_figures_L18 S  hb hc (fun b hxe => by rw [hr b hxe]; exact hX)) FU (M2, 0) hl
      exact hZ9
    · refine z_iconst (v := 0) S dX10_figures_8 (by decide) ?_
      exact z_iret S (Prod.mk.inj (Option.some.inj he)) dX10_figures_9
set_option maxRecDepth 100000 in
set_option maxHeartbeats 4000000 in
theorem K_X10_isSign {X : Cx} {l : Launch} {M : Mm} {a1 : Int32} {r : Bool} {N : Mm}  (he : f_X10_isSign M a1 = some (r, N)) : KI X 1 l yX10_isSign (wz yX10_isSign cX10_isSign 2 (some .boolean)) rm_X10_isSign [.ref (X.2.2 109), .int a1] M (bI r) N := by
  intro sz
  refine K_of (Qc := (fun sz => QI X 1 (bI r) N sz)) (own := RX10) (lv0 := [(0, .ref (X.2.2 109)), (1, .int a1)]) (by decide +kernel) rfl (Nat.le_of_ble_eq_true rfl) rfl (fun p e s m args below meth c S => ?_) sz
  · unfold f_X10_isSign at he
    refine z_aload_n S dX10_isSign_0 rfl 0 rfl ?_
    obtain ⟨M1, h9, he⟩ := bnd he
    refine z_cVV (As := []) S cv_RX10_90 (K_X10_skip  h9) ok_109 (by decide) (q := (RX10, TX10, 28)) rfl rfl ⟨rfl, rfl⟩ ⟨Nat.le_of_ble_eq_true rfl, Nat.le_of_ble_eq_true rfl⟩ ⟨Nat.le_refl _, Nat.le_refl _⟩ rfl rfl (Nat.le_of_ble_eq_true rfl) dX10_isSign_1 ?_
    refine z_aload_n S dX10_isSign_4 rfl 0 rfl ?_
    refine z_getI S fo_RX10_80 rfl ok_109 dX10_isSign_5 ?_
    refine z_aload_n S dX10_isSign_8 rfl 0 rfl ?_
    refine z_getI S fo_RX10_83 rfl ok_109 dX10_isSign_9 ?_
    refine z_icmp_ge (tgt := 31) S he dX10_isSign_12 (by decide) (fun he => ?_) (fun he => ?_)
    · refine z_iconst (v := 0) S dX10_isSign_31 (by decide) ?_
      exact z_zret0 S (Prod.mk.inj (Option.some.inj he)) dX10_isSign_32
    · refine z_aload_n S dX10_isSign_15 rfl 0 rfl ?_
      refine z_aload_n S dX10_isSign_16 rfl 0 rfl ?_
      refine z_getI S fo_RX10_80 rfl ok_109 dX10_isSign_17 ?_
      obtain ⟨r2, h9, he⟩ := bnd he
      refine z_cVI (As := [.int (gI M1 109 11)]) S cv_RX10_86 (K_X10_letter  h9) ok_109 (by decide) (q := (RX10, TX10, 28)) rfl rfl ⟨rfl, rfl⟩ ⟨Nat.le_of_ble_eq_true rfl, Nat.le_of_ble_eq_true rfl⟩ ⟨Nat.le_refl _, Nat.le_refl _⟩ rfl rfl (Nat.le_of_ble_eq_true rfl) dX10_isSign_20 ?_
      refine z_iload_n S dX10_isSign_23 rfl 1 rfl ?_
      refine z_icmp_ne (tgt := 31) S he dX10_isSign_24 (by decide) (fun he => ?_) (fun he => ?_)
      · refine z_iconst (v := 0) S dX10_isSign_31 (by decide) ?_
        exact z_zret0 S (Prod.mk.inj (Option.some.inj he)) dX10_isSign_32
      · refine z_iconst (v := 1) S dX10_isSign_27 (by decide) ?_
        refine z_goto (tgt := 32) S dX10_isSign_28 (by decide) ?_
        exact z_zret1 S (Prod.mk.inj (Option.some.inj he)) dX10_isSign_32
set_option maxRecDepth 100000 in
set_option maxHeartbeats 4000000 in
theorem K_X10_isOf {X : Cx} {l : Launch} {M : Mm} {a0 : Int32} {a1 : Int32} {r : Bool}  (he : f_X10_isOf M a0 a1 = r) : KI X 1 l yX10_isOf (wz yX10_isOf cX10_isOf 2 (some .boolean)) rm_X10_isOf [.int a0, .int a1] M (bI r) M := by
  intro sz
  refine K_of (Qc := (fun sz => QI X 1 (bI r) M sz)) (own := RX10) (lv0 := [(0, .int a0), (1, .int a1)]) (by decide +kernel) rfl (Nat.le_of_ble_eq_true rfl) rfl (fun p e s m args below meth c S => ?_) sz
  · unfold f_X10_isOf at he
    refine z_iload_n S dX10_isOf_0 rfl 0 rfl ?_
    refine z_iload_n S dX10_isOf_1 rfl 1 rfl ?_
    refine z_ishr S dX10_isOf_2 ?_
    refine z_iconst (v := 1) S dX10_isOf_3 (by decide) ?_
    refine z_iand S dX10_isOf_4 ?_
    refine z_iconst (v := 1) S dX10_isOf_5 (by decide) ?_
    refine z_icmp_ne (tgt := 13) S he dX10_isOf_6 (by decide) (fun he => ?_) (fun he => ?_)
    · refine z_iconst (v := 0) S dX10_isOf_13 (by decide) ?_
      exact z_zret0 S (⟨he, rfl⟩) dX10_isOf_14
    · refine z_iconst (v := 1) S dX10_isOf_9 (by decide) ?_
      refine z_goto (tgt := 14) S dX10_isOf_10 (by decide) ?_
      exact z_zret1 S (⟨he, rfl⟩) dX10_isOf_14
set_option maxRecDepth 100000 in
set_option maxHeartbeats 4000000 in
theorem p_X10_part_J131 {X : Cx} {p : Program} {l : Launch} {e : Env} {s : State} {m : MethodId} {args : Array Value} {below : List Frame} {meth : Method} {c : Code} (S : SB X 1 p s m args meth c cX10_part 2 (some .int) RX10) {M : Mm} {N : Mm} {r : Int32} {t0 : Int32}  (he : f_X10_part_J131 M t0 = some (r, N)) : Z X 1 p l e rm_X10_part s m args below meth c 0 0 (MQ below (QI X 1 r N s.heap.size) args s 0 0 (AA X 1 s.heap.size)) 2 M 131 [(0, .ref (X.2.2 109))] [.int t0] := by
  unfold f_X10_part_J131 at he
  refine z_istore_n (lv' := [(0, .ref (X.2.2 109)), (1, .int t0)]) S [1, 0] dX10_part_131 rfl (by decide) rfl ?_
  refine z_iload_n S dX10_part_132 rfl 1 rfl ?_
  refine z_iconst (v := (-1)) S dX10_part_133 (by decide) ?_
  refine z_icmp_ne (tgt := 147) S he dX10_part_134 (by decide) (fun he => ?_) (fun he => ?_)
  · refine z_aload_n S dX10_part_147 rfl 0 rfl ?_
    refine z_getF (j := 115) S fo_RX10_29 6 rfl rfl ok_109 dX10_part_148 ?_
    refine z_iload_n S dX10_part_151 rfl 1 rfl ?_
    refine z_iald S ok_115 rfl he dX10_part_152 (fun he => ?_)
    exact z_iret S (Prod.mk.inj (Option.some.inj he)) dX10_part_153
  · refine z_aload_n S dX10_part_137 rfl 0 rfl ?_
    refine z_aload_n S dX10_part_138 rfl 0 rfl ?_
    refine z_getI S fo_RX10_80 rfl ok_109 dX10_part_139 ?_
    obtain ⟨M14, h9, he⟩ := bnd he
    refine z_cVV (As := [.int (gI M 109 11)]) S cv_RX10_106 (K_X10_wrong  (Option.some.inj h9)) ok_109 (by decide) (q := (RX10, TX10, 28)) rfl rfl ⟨rfl, rfl⟩ ⟨Nat.le_of_ble_eq_true rfl, Nat.le_of_ble_eq_true rfl⟩ ⟨Nat.le_refl _, Nat.le_refl _⟩ rfl rfl (Nat.le_of_ble_eq_true rfl) dX10_part_142 ?_
    refine z_iconst (v := 0) S dX10_part_145 (by decide) ?_
    exact z_iret S (Prod.mk.inj (Option.some.inj he)) dX10_part_146
set_option maxRecDepth 100000 in
set_option maxHeartbeats 4000000 in
theorem p_X10_part_J52 {X : Cx} {p : Program} {l : Launch} {e : Env} {s : State} {m : MethodId} {args : Array Value} {below : List Frame} {meth : Method} {c : Code} (S : SB X 1 p s m args meth c cX10_part 2 (some .int) RX10) {M : Mm} {N : Mm} {r : Int32}  (he : f_X10_part_J52 M  = some (r, N)) : Z X 1 p l e rm_X10_part s m args below meth c 0 0 (MQ below (QI X 1 r N s.heap.size) args s 0 0 (AA X 1 s.heap.size)) 2 M 52 [(0, .ref (X.2.2 109))] [] := by
  unfold f_X10_part_J52 at he
  refine z_aload_n S dX10_part_52 rfl 0 rfl ?_
  refine z_ldcS (i := 29) (j := 429) S rfl rfl dX10_part_53 ?_
  obtain ⟨⟨r2, M3⟩, h9, he⟩ := bnd he
  dsimp only at he
  refine z_cVI (As := [.ref (X.2.2 429)]) S cv_RX10_110 (K_X10_says (isT_add (i := 29) (by decide)) h9) ok_109 (by decide) (q := (RX10, TX10, 28)) rfl rfl ⟨rfl, rfl⟩ ⟨Nat.le_of_ble_eq_true rfl, Nat.le_of_ble_eq_true rfl⟩ ⟨Nat.le_refl _, Nat.le_refl _⟩ rfl rfl (Nat.le_of_ble_eq_true rfl) dX10_part_55 ?_
  refine z_ifb_eq (tgt := 65) S he dX10_part_58 (by decide) (fun he => ?_) (fun he => ?_)
  · refine z_aload_n S dX10_part_65 rfl 0 rfl ?_
    refine z_ldcS (i := 30) (j := 430) S rfl rfl dX10_part_66 ?_
    obtain ⟨⟨r4, M5⟩, h9, he⟩ := bnd he
    dsimp only at he
    refine z_cVI (As := [.ref (X.2.2 430)]) S cv_RX10_110 (K_X10_says (isT_add (i := 30) (by decide)) h9) ok_109 (by decide) (q := (RX10, TX10, 28)) rfl rfl ⟨rfl, rfl⟩ ⟨Nat.le_of_ble_eq_true rfl, Nat.le_of_ble_eq_true rfl⟩ ⟨Nat.le_refl _, Nat.le_refl _⟩ rfl rfl (Nat.le_of_ble_eq_true rfl) dX10_part_68 ?_
    refine z_ifb_eq (tgt := 78) S he dX10_part_71 (by decide) (fun he => ?_) (fun he => ?_)
    · refine z_aload_n S dX10_part_78 rfl 0 rfl ?_
      refine z_ldcS (i := 31) (j := 431) S rfl rfl dX10_part_79 ?_
      obtain ⟨⟨r6, M7⟩, h9, he⟩ := bnd he
      dsimp only at he
      refine z_cVI (As := [.ref (X.2.2 431)]) S cv_RX10_110 (K_X10_says (isT_add (i := 31) (by decide)) h9) ok_109 (by decide) (q := (RX10, TX10, 28)) rfl rfl ⟨rfl, rfl⟩ ⟨Nat.le_of_ble_eq_true rfl, Nat.le_of_ble_eq_true rfl⟩ ⟨Nat.le_refl _, Nat.le_refl _⟩ rfl rfl (Nat.le_of_ble_eq_true rfl) dX10_part_81 ?_
      refine z_ifb_eq (tgt := 91) S he dX10_part_84 (by decide) (fun he => ?_) (fun he => ?_)
      · refine z_aload_n S dX10_part_91 rfl 0 rfl ?_
        refine z_ldcS (i := 32) (j := 432) S rfl rfl dX10_part_92 ?_
        obtain ⟨⟨r8, M9⟩, h9, he⟩ := bnd he
        dsimp only at he
        refine z_cVI (As := [.ref (X.2.2 432)]) S cv_RX10_110 (K_X10_says (isT_add (i := 32) (by decide)) h9) ok_109 (by decide) (q := (RX10, TX10, 28)) rfl rfl ⟨rfl, rfl⟩ ⟨Nat.le_of_ble_eq_true rfl, Nat.le_of_ble_eq_true rfl⟩ ⟨Nat.le_refl _, Nat.le_refl _⟩ rfl rfl (Nat.le_of_ble_eq_true rfl) dX10_part_94 ?_
        refine z_ifb_eq (tgt := 104) S he dX10_part_97 (by decide) (fun he => ?_) (fun he => ?_)
        · refine z_aload_n S dX10_part_104 rfl 0 rfl ?_
          refine z_ldcS (i := 33) (j := 433) S rfl rfl dX10_part_105 ?_
          obtain ⟨⟨r10, M11⟩, h9, he⟩ := bnd he
          dsimp only at he
          refine z_cVI (As := [.ref (X.2.2 433)]) S cv_RX10_110 (K_X10_says (isT_add (i := 33) (by decide)) h9) ok_109 (by decide) (q := (RX10, TX10, 28)) rfl rfl ⟨rfl, rfl⟩ ⟨Nat.le_of_ble_eq_true rfl, Nat.le_of_ble_eq_true rfl⟩ ⟨Nat.le_refl _, Nat.le_refl _⟩ rfl rfl (Nat.le_of_ble_eq_true rfl) dX10_part_107 ?_
          refine z_ifb_eq (tgt := 117) S he dX10_part_110 (by decide) (fun he => ?_) (fun he => ?_)
          · refine z_aload_n S dX10_part_117 rfl 0 rfl ?_
            refine z_ldcS (i := 34) (j := 434) S rfl rfl dX10_part_118 ?_
            obtain ⟨⟨r12, M13⟩, h9, he⟩ := bnd he
            dsimp only at he
            refine z_cVI (As := [.ref (X.2.2 434)]) S cv_RX10_110 (K_X10_says (isT_add (i := 34) (by decide)) h9) ok_109 (by decide) (q := (RX10, TX10, 28)) rfl rfl ⟨rfl, rfl⟩ ⟨Nat.le_of_ble_eq_true rfl, Nat.le_of_ble_eq_true rfl⟩ ⟨Nat.le_refl _, Nat.le_refl _⟩ rfl rfl (Nat.le_of_ble_eq_true rfl) dX10_part_120 ?_
            refine z_ifb_eq (tgt := 130) S he dX10_part_123 (by decide) (fun he => ?_) (fun he => ?_)
            · refine z_iconst (v := (-1)) S dX10_part_130 (by decide) ?_
              exact p_X10_part_J131 S  he
            · refine z_iconst (v := 5) S dX10_part_126 (by decide) ?_
              refine z_goto (tgt := 131) S dX10_part_127 (by decide) ?_
              exact p_X10_part_J131 S  he
          · refine z_iconst (v := 4) S dX10_part_113 (by decide) ?_
            refine z_goto (tgt := 131) S dX10_part_114 (by decide) ?_
            exact p_X10_part_J131 S  he
        · refine z_iconst (v := 3) S dX10_part_100 (by decide) ?_
          refine z_goto (tgt := 131) S dX10_part_101 (by decide) ?_
          exact p_X10_part_J131 S  he
      · refine z_iconst (v := 2) S dX10_part_87 (by decide) ?_
        refine z_goto (tgt := 131) S dX10_part_88 (by decide) ?_
        exact p_X10_part_J131 S  he
    · refine z_iconst (v := 1) S dX10_part_74 (by decide) ?_
      refine z_goto (tgt := 131) S dX10_part_75 (by decide) ?_
      exact p_X10_part_J131 S  he
  · refine z_iconst (v := 0) S dX10_part_61 (by decide) ?_
    refine z_goto (tgt := 131) S dX10_part_62 (by decide) ?_
    exact p_X10_part_J131 S  he
set_option maxRecDepth 100000 in
set_option maxHeartbeats 4000000 in
theorem K_X10_part {X : Cx} {l : Launch} {M : Mm} {r : Int32} {N : Mm}  (he : f_X10_part M  = some (r, N)) : KI X 1 l yX10_part (wz yX10_part cX10_part 2 (some .int)) rm_X10_part [.ref (X.2.2 109)] M r N := by
  intro sz
  refine K_of (Qc := (fun sz => QI X 1 r N sz)) (own := RX10) (lv0 := [(0, .ref (X.2.2 109))]) (by decide +kernel) rfl (Nat.le_of_ble_eq_true rfl) rfl (fun p e s m args below meth c S => ?_) sz
  · unfold f_X10_part at he
    refine z_aload_n S dX10_part_0 rfl 0 rfl ?_
    refine z_getI S fo_RX10_25 rfl ok_109 dX10_part_1 ?_
    refine z_iconst (v := (-1)) S dX10_part_4 (by decide) ?_
    refine z_icmp_eq (tgt := 10) S he dX10_part_5 (by decide) (fun he => ?_) (fun he => ?_)
    · refine z_aload_n S dX10_part_10 rfl 0 rfl ?_
      obtain ⟨M1, h9, he⟩ := bnd he
      refine z_cVV (As := []) S cv_RX10_90 (K_X10_skip  h9) ok_109 (by decide) (q := (RX10, TX10, 28)) rfl rfl ⟨rfl, rfl⟩ ⟨Nat.le_of_ble_eq_true rfl, Nat.le_of_ble_eq_true rfl⟩ ⟨Nat.le_refl _, Nat.le_refl _⟩ rfl rfl (Nat.le_of_ble_eq_true rfl) dX10_part_11 ?_
      refine z_aload_n S dX10_part_14 rfl 0 rfl ?_
      refine z_getI S fo_RX10_80 rfl ok_109 dX10_part_15 ?_
      refine z_aload_n S dX10_part_18 rfl 0 rfl ?_
      refine z_getI S fo_RX10_83 rfl ok_109 dX10_part_19 ?_
      refine z_icmp_ge (tgt := 52) S he dX10_part_22 (by decide) (fun he => ?_) (fun he => ?_)
      · exact p_X10_part_J52 S  he
      · refine z_aload_n S dX10_part_25 rfl 0 rfl ?_
        refine z_aload_n S dX10_part_26 rfl 0 rfl ?_
        refine z_getI S fo_RX10_80 rfl ok_109 dX10_part_27 ?_
        obtain ⟨r15, h9, he⟩ := bnd he
        refine z_cVI (As := [.int (gI M1 109 11)]) S cv_RX10_86 (K_X10_letter  h9) ok_109 (by decide) (q := (RX10, TX10, 28)) rfl rfl ⟨rfl, rfl⟩ ⟨Nat.le_of_ble_eq_true rfl, Nat.le_of_ble_eq_true rfl⟩ ⟨Nat.le_refl _, Nat.le_refl _⟩ rfl rfl (Nat.le_of_ble_eq_true rfl) dX10_part_30 ?_
        refine z_bipush (v := 48) S dX10_part_33 (by decide) ?_
        refine z_bipush (v := 57) S dX10_part_35 (by decide) ?_
        refine z_cSI (As := [.int r15, .int 48, .int 57]) S cs_RX10_66 (K_X10_isIn  rfl) ⟨rfl, rfl⟩ ⟨Nat.le_of_ble_eq_true rfl, Nat.le_of_ble_eq_true rfl⟩ ⟨Nat.le_refl _, Nat.le_refl _⟩ rfl rfl (Nat.le_of_ble_eq_true rfl) dX10_part_37 ?_
        refine z_ifb_eq (tgt := 52) S he dX10_part_40 (by decide) (fun he => ?_) (fun he => ?_)
        · exact p_X10_part_J52 S  he
        · refine z_aload_n S dX10_part_43 rfl 0 rfl ?_
          refine z_iconst (v := 0) S dX10_part_44 (by decide) ?_
          refine z_sipush (v := 999) S dX10_part_45 (by decide) ?_
          obtain ⟨⟨r16, M17⟩, h9, he⟩ := bnd he
          dsimp only at he
          refine z_cVI (As := [.int 0, .int 999]) S cv_RX10_114 (K_X10_figures  h9) ok_109 (by decide) (q := (RX10, TX10, 28)) rfl rfl ⟨rfl, rfl⟩ ⟨Nat.le_of_ble_eq_true rfl, Nat.le_of_ble_eq_true rfl⟩ ⟨Nat.le_refl _, Nat.le_refl _⟩ rfl rfl (Nat.le_of_ble_eq_true rfl) dX10_part_48 ?_
          exact z_iret S (Prod.mk.inj (Option.some.inj he)) dX10_part_51
    · refine z_iconst (v := 0) S dX10_part_8 (by decide) ?_
      exact z_iret S (Prod.mk.inj (Option.some.inj he)) dX10_part_9
set_option maxRecDepth 100000 in
set_option maxHeartbeats 4000000 in
theorem p_X10_sum_L5 {X : Cx} {p : Program} {l : Launch} {e : Env} {s : State} {m : MethodId} {args : Array Value} {below : List Frame} {meth : Method} {c : Code} (S : SB X 1 p s m args meth c cX10_sum 2 (some .int) RX10) {M : Mm} {N : Mm} {r : Int32} {v1 : Int32} {x : (Mm × Int32) ⊕ (Mm × Int32)}  (he : f_X10_sum_L5 M v1 = some x) (hc : ∀ b, x = .inl b → Z X 1 p l e rm_X10_sum s m args below meth c 0 0 (MQ below (QI X 1 r N s.heap.size) args s 0 0 (AA X 1 s.heap.size)) 2 b.1 5 [(0, .ref (X.2.2 109)), (1, .int b.2)] []) (hx : ∀ b, x = .inr b → Z X 1 p l e rm_X10_sum s m args below meth c 0 0 (MQ below (QI X 1 r N s.heap.size) args s 0 0 (AA X 1 s.heap.size)) 2 b.1 42 [(1, .int b.2)] []) : Z X 1 p l e rm_X10_sum s m args below meth c 0 0 (MQ below (QI X 1 r N s.heap.size) args s 0 0 (AA X 1 s.heap.size)) 2 M 5 [(0, .ref (X.2.2 109)), (1, .int v1)] [] := by
  unfold f_X10_sum_L5 at he
  refine z_aload_n S dX10_sum_5 rfl 0 rfl ?_
  refine z_getI S fo_RX10_25 rfl ok_109 dX10_sum_6 ?_
  refine z_iconst (v := (-1)) S dX10_sum_9 (by decide) ?_
  refine z_icmp_ne (tgt := 42) S he dX10_sum_10 (by decide) (fun he => ?_) (fun he => ?_)
  · refine z_lv (ks := [1]) rfl ?_
    exact hx _ (Option.some.inj he).symm
  · refine z_aload_n S dX10_sum_13 rfl 0 rfl ?_
    refine z_bipush (v := 43) S dX10_sum_14 (by decide) ?_
    obtain ⟨⟨r3, M4⟩, h9, he⟩ := bnd he
    dsimp only at he
    refine z_cVI (As := [.int 43]) S cv_RX10_167 (K_X10_isSign  h9) ok_109 (by decide) (q := (RX10, TX10, 28)) rfl rfl ⟨rfl, rfl⟩ ⟨Nat.le_of_ble_eq_true rfl, Nat.le_of_ble_eq_true rfl⟩ ⟨Nat.le_refl _, Nat.le_refl _⟩ rfl rfl (Nat.le_of_ble_eq_true rfl) dX10_sum_16 ?_
    refine z_ifb_eq (tgt := 42) S he dX10_sum_19 (by decide) (fun he => ?_) (fun he => ?_)
    · refine z_lv (ks := [1]) rfl ?_
      exact hx _ (Option.some.inj he).symm
    · refine z_aload_n S dX10_sum_22 rfl 0 rfl ?_
      refine z_dup S rfl dX10_sum_23 ?_
      refine z_getI S fo_RX10_80 rfl ok_109 dX10_sum_24 ?_
      refine z_iconst (v := 1) S dX10_sum_27 (by decide) ?_
      refine z_iadd S dX10_sum_28 ?_
      refine z_putIb S fo_RX10_80p rfl ok_109 rfl rfl he dX10_sum_29 (fun M5 he => ?_)
      refine z_iload_n S dX10_sum_32 rfl 1 rfl ?_
      refine z_aload_n S dX10_sum_33 rfl 0 rfl ?_
      obtain ⟨⟨r6, M7⟩, h9, he⟩ := bnd he
      dsimp only at he
      refine z_cVI (As := []) S cv_RX10_193 (K_X10_part  h9) ok_109 (by decide) (q := (RX10, TX10, 28)) rfl rfl ⟨rfl, rfl⟩ ⟨Nat.le_of_ble_eq_true rfl, Nat.le_of_ble_eq_true rfl⟩ ⟨Nat.le_refl _, Nat.le_refl _⟩ rfl rfl (Nat.le_of_ble_eq_true rfl) dX10_sum_34 ?_
      refine z_iadd S dX10_sum_37 ?_
      refine z_istore_n (lv' := [(0, .ref (X.2.2 109)), (1, .int (v1 + r6))]) S [1, 0] dX10_sum_38 rfl (by decide) rfl ?_
      refine z_goto (tgt := 5) S dX10_sum_39 (by decide) ?_
      refine z_lv (ks := [0, 1]) rfl ?_
      exact hc _ (Option.some.inj he).symm
set_option maxRecDepth 100000 in
set_option maxHeartbeats 4000000 in
theorem K_X10_sum {X : Cx} {l : Launch} {M : Mm} {r : Int32} {N : Mm}  (he : f_X10_sum M  = some (r, N)) : KI X 1 l yX10_sum (wz yX10_sum cX10_sum 2 (some .int)) rm_X10_sum [.ref (X.2.2 109)] M r N := by
  intro sz
  refine K_of (Qc := (fun sz => QI X 1 r N sz)) (own := RX10) (lv0 := [(0, .ref (X.2.2 109))]) (by decide +kernel) rfl (Nat.le_of_ble_eq_true rfl) rfl (fun p e s m args below meth c S => ?_) sz
  · unfold f_X10_sum at he
    refine z_aload_n S dX10_sum_0 rfl 0 rfl ?_
    obtain ⟨⟨r1, M2⟩, h9, he⟩ := bnd he
    dsimp only at he
    refine z_cVI (As := []) S cv_RX10_193 (K_X10_part  h9) ok_109 (by decide) (q := (RX10, TX10, 28)) rfl rfl ⟨rfl, rfl⟩ ⟨Nat.le_of_ble_eq_true rfl, Nat.le_of_ble_eq_true rfl⟩ ⟨Nat.le_refl _, Nat.le_refl _⟩ rfl rfl (Nat.le_of_ble_eq_true rfl) dX10_sum_1 ?_
    refine z_istore_n (lv' := [(0, .ref (X.2.2 109)), (1, .int r1)]) S [1, 0] dX10_sum_4 rfl (by decide) rfl ?_
    obtain ⟨e_8, hl, he⟩ := bnd he
    have hX : Z X 1 p l e rm_X10_sum s m args below meth c 0 0 (MQ below (QI X 1 r N s.heap.size) args s 0 0 (AA X 1 s.heap.size)) 2 e_8.1 42 [(1, .int e_8.2)] [] := by
      refine z_iload_n S dX10_sum_42 rfl 0 rfl ?_
      exact z_iret S (Prod.mk.inj (Option.some.inj he)) dX10_sum_43
    have hZ9 := loopZ (f := (fun a_8 => f_X10_sum_L5 a_8.1 a_8.2)) (Zh := (fun a_8 => Z X 1 p l e rm_X10_sum s m args below meth c 0 0 (MQ below (QI X 1 r N s.heap.size) args s 0 0 (AA X 1 s.heap.size)) 2 a_8.1 5 [(0, .ref (X.2.2 109)), (1, .int a_8.2)] [])) (fun a_8 x hb hc hr => p_X10_sum_L5 S  hb hc (fun b hxe => by rw [hr b hxe]; exact hX)) FU (M2, r1) hl
    exact hZ9
set_option maxRecDepth 100000 in
set_option maxHeartbeats 4000000 in
theorem p_X10_plain_J139 {X : Cx} {p : Program} {l : Launch} {e : Env} {s : State} {m : MethodId} {args : Array Value} {below : List Frame} {meth : Method} {c : Code} (S : SB X 1 p s m args meth c cX10_plain 5 (some .boolean) RX10) {M : Mm} {N : Mm} {r : Bool} {v2 : Int32} {v3 : Int32}  (he : f_X10_plain_J139 M v2 v3 = some (r, N)) : Z X 1 p l e rm_X10_plain s m args below meth c 0 0 (MQ below (QI X 1 (bI r) N s.heap.size) args s 0 0 (AA X 1 s.heap.size)) 5 M 139 [(0, .ref (X.2.2 109)), (2, .int v2), (3, .int v3)] [] := by
  unfold f_X10_plain_J139 at he
  refine z_aload_n S dX10_plain_139 rfl 0 rfl ?_
  refine z_dup S rfl dX10_plain_140 ?_
  refine z_getI S fo_RX10_80 rfl ok_109 dX10_plain_141 ?_
  refine z_iconst (v := 1) S dX10_plain_144 (by decide) ?_
  refine z_iadd S dX10_plain_145 ?_
  refine z_putIb S fo_RX10_80p rfl ok_109 rfl rfl he dX10_plain_146 (fun M17 he => ?_)
  refine z_aload_n S dX10_plain_149 rfl 0 rfl ?_
  obtain ⟨⟨r18, M19⟩, h9, he⟩ := bnd he
  dsimp only at he
  refine z_cVI (As := []) S cv_RX10_211 (K_X10_sum  h9) ok_109 (by decide) (q := (RX10, TX10, 28)) rfl rfl ⟨rfl, rfl⟩ ⟨Nat.le_of_ble_eq_true rfl, Nat.le_of_ble_eq_true rfl⟩ ⟨Nat.le_refl _, Nat.le_refl _⟩ rfl rfl (Nat.le_of_ble_eq_true rfl) dX10_plain_150 ?_
  refine z_istore (lv' := [(2, .int v2), (3, .int v3), (4, .int r18)]) S [2, 3, 0] dX10_plain_153 (by decide) rfl ?_
  refine z_iload_n S dX10_plain_155 rfl 1 rfl ?_
  refine z_if_eq (tgt := 173) S he dX10_plain_156 (by decide) (fun he => ?_) (fun he => ?_)
  · refine z_iload_n S dX10_plain_173 rfl 0 rfl ?_
    refine z_iload S dX10_plain_174 2 rfl ?_
    refine z_icmp_le (tgt := 183) S he dX10_plain_176 (by decide) (fun he => ?_) (fun he => ?_)
    · refine z_iconst (v := 0) S dX10_plain_183 (by decide) ?_
      exact z_zret0 S (Prod.mk.inj (Option.some.inj he)) dX10_plain_184
    · refine z_iconst (v := 1) S dX10_plain_179 (by decide) ?_
      refine z_goto (tgt := 184) S dX10_plain_180 (by decide) ?_
      exact z_zret1 S (Prod.mk.inj (Option.some.inj he)) dX10_plain_184
  · refine z_iload_n S dX10_plain_159 rfl 0 rfl ?_
    refine z_iload S dX10_plain_160 2 rfl ?_
    refine z_icmp_ge (tgt := 169) S he dX10_plain_162 (by decide) (fun he => ?_) (fun he => ?_)
    · refine z_iconst (v := 0) S dX10_plain_169 (by decide) ?_
      refine z_goto (tgt := 184) S dX10_plain_170 (by decide) ?_
      exact z_zret0 S (Prod.mk.inj (Option.some.inj he)) dX10_plain_184
    · refine z_iconst (v := 1) S dX10_plain_165 (by decide) ?_
      refine z_goto (tgt := 184) S dX10_plain_166 (by decide) ?_
      exact z_zret1 S (Prod.mk.inj (Option.some.inj he)) dX10_plain_184
set_option maxRecDepth 100000 in
set_option maxHeartbeats 4000000 in
theorem p_X10_plain_J79 {X : Cx} {p : Program} {l : Launch} {e : Env} {s : State} {m : MethodId} {args : Array Value} {below : List Frame} {meth : Method} {c : Code} (S : SB X 1 p s m args meth c cX10_plain 5 (some .boolean) RX10) {M : Mm} {N : Mm} {r : Bool} {t0 : Int32}  (he : f_X10_plain_J79 M t0 = some (r, N)) : Z X 1 p l e rm_X10_plain s m args below meth c 0 0 (MQ below (QI X 1 (bI r) N s.heap.size) args s 0 0 (AA X 1 s.heap.size)) 5 M 79 [(0, .ref (X.2.2 109))] [.int t0] := by
  unfold f_X10_plain_J79 at he
  refine z_istore_n (lv' := [(0, .ref (X.2.2 109)), (1, .int t0)]) S [1, 0] dX10_plain_79 rfl (by decide) rfl ?_
  refine z_iload_n S dX10_plain_80 rfl 1 rfl ?_
  refine z_iconst (v := (-1)) S dX10_plain_81 (by decide) ?_
  refine z_icmp_eq (tgt := 94) S he dX10_plain_82 (by decide) (fun he => ?_) (fun he => ?_)
  · refine z_aload_n S dX10_plain_94 rfl 0 rfl ?_
    obtain ⟨⟨r13, M14⟩, h9, he⟩ := bnd he
    dsimp only at he
    refine z_cVI (As := []) S cv_RX10_211 (K_X10_sum  h9) ok_109 (by decide) (q := (RX10, TX10, 28)) rfl rfl ⟨rfl, rfl⟩ ⟨Nat.le_of_ble_eq_true rfl, Nat.le_of_ble_eq_true rfl⟩ ⟨Nat.le_refl _, Nat.le_refl _⟩ rfl rfl (Nat.le_of_ble_eq_true rfl) dX10_plain_95 ?_
    refine z_istore_n (lv' := [(0, .ref (X.2.2 109)), (2, .int r13)]) S [1, 0] dX10_plain_98 rfl (by decide) rfl ?_
    refine z_aload_n S dX10_plain_99 rfl 0 rfl ?_
    refine z_getI S fo_RX10_25 rfl ok_109 dX10_plain_100 ?_
    refine z_iconst (v := (-1)) S dX10_plain_103 (by decide) ?_
    refine z_icmp_eq (tgt := 109) S he dX10_plain_104 (by decide) (fun he => ?_) (fun he => ?_)
    · refine z_aload_n S dX10_plain_109 rfl 0 rfl ?_
      refine z_bipush (v := 60) S dX10_plain_110 (by decide) ?_
      obtain ⟨⟨r15, M16⟩, h9, he⟩ := bnd he
      dsimp only at he
      refine z_cVI (As := [.int 60]) S cv_RX10_167 (K_X10_isSign  h9) ok_109 (by decide) (q := (RX10, TX10, 28)) rfl rfl ⟨rfl, rfl⟩ ⟨Nat.le_of_ble_eq_true rfl, Nat.le_of_ble_eq_true rfl⟩ ⟨Nat.le_refl _, Nat.le_refl _⟩ rfl rfl (Nat.le_of_ble_eq_true rfl) dX10_plain_112 ?_
      refine z_istore_n (lv' := [(0, .ref (X.2.2 109)), (2, .int r13), (3, .int (bI r15))]) S [1, 2, 0] dX10_plain_115 rfl (by decide) rfl ?_
      refine z_iload_n S dX10_plain_116 rfl 2 rfl ?_
      refine z_ifb_ne (tgt := 139) S he dX10_plain_117 (by decide) (fun he => ?_) (fun he => ?_)
      · exact p_X10_plain_J139 S  he
      · refine z_aload_n S dX10_plain_120 rfl 0 rfl ?_
        refine z_bipush (v := 62) S dX10_plain_121 (by decide) ?_
        obtain ⟨⟨r20, M21⟩, h9, he⟩ := bnd he
        dsimp only at he
        refine z_cVI (As := [.int 62]) S cv_RX10_167 (K_X10_isSign  h9) ok_109 (by decide) (q := (RX10, TX10, 28)) rfl rfl ⟨rfl, rfl⟩ ⟨Nat.le_of_ble_eq_true rfl, Nat.le_of_ble_eq_true rfl⟩ ⟨Nat.le_refl _, Nat.le_refl _⟩ rfl rfl (Nat.le_of_ble_eq_true rfl) dX10_plain_123 ?_
        refine z_ifb_ne (tgt := 139) S he dX10_plain_126 (by decide) (fun he => ?_) (fun he => ?_)
        · exact p_X10_plain_J139 S  he
        · refine z_aload_n S dX10_plain_129 rfl 0 rfl ?_
          refine z_aload_n S dX10_plain_130 rfl 0 rfl ?_
          refine z_getI S fo_RX10_80 rfl ok_109 dX10_plain_131 ?_
          obtain ⟨M22, h9, he⟩ := bnd he
          refine z_cVV (As := [.int (gI M21 109 11)]) S cv_RX10_106 (K_X10_wrong  (Option.some.inj h9)) ok_109 (by decide) (q := (RX10, TX10, 28)) rfl rfl ⟨rfl, rfl⟩ ⟨Nat.le_of_ble_eq_true rfl, Nat.le_of_ble_eq_true rfl⟩ ⟨Nat.le_refl _, Nat.le_refl _⟩ rfl rfl (Nat.le_of_ble_eq_true rfl) dX10_plain_134 ?_
          refine z_iconst (v := 0) S dX10_plain_137 (by decide) ?_
          exact z_zret0 S (Prod.mk.inj (Option.some.inj he)) dX10_plain_138
    · refine z_iconst (v := 0) S dX10_plain_107 (by decide) ?_
      exact z_zret0 S (Prod.mk.inj (Option.some.inj he)) dX10_plain_108
  · refine z_aload_n S dX10_plain_85 rfl 0 rfl ?_
    refine z_getI S fo_RX10_208 rfl ok_109 dX10_plain_86 ?_
    refine z_iload_n S dX10_plain_89 rfl 1 rfl ?_
    refine z_cSI (As := [.int (gI M 109 16), .int t0]) S cs_RX10_117 (K_X10_isOf  rfl) ⟨rfl, rfl⟩ ⟨Nat.le_of_ble_eq_true rfl, Nat.le_of_ble_eq_true rfl⟩ ⟨Nat.le_refl _, Nat.le_refl _⟩ rfl rfl (Nat.le_of_ble_eq_true rfl) dX10_plain_90 ?_
    exact z_zret S (Prod.mk.inj (Option.some.inj he)) dX10_plain_93
set_option maxRecDepth 100000 in
set_option maxHeartbeats 4000000 in
theorem K_X10_plain {X : Cx} {l : Launch} {M : Mm} {r : Bool} {N : Mm}  (he : f_X10_plain M  = some (r, N)) : KI X 1 l yX10_plain (wz yX10_plain cX10_plain 5 (some .boolean)) rm_X10_plain [.ref (X.2.2 109)] M (bI r) N := by
  intro sz
  refine K_of (Qc := (fun sz => QI X 1 (bI r) N sz)) (own := RX10) (lv0 := [(0, .ref (X.2.2 109))]) (by decide +kernel) rfl (Nat.le_of_ble_eq_true rfl) rfl (fun p e s m args below meth c S => ?_) sz
  · unfold f_X10_plain at he
    refine z_aload_n S dX10_plain_0 rfl 0 rfl ?_
    refine z_ldcS (i := 23) (j := 423) S rfl rfl dX10_plain_1 ?_
    obtain ⟨⟨r1, M2⟩, h9, he⟩ := bnd he
    dsimp only at he
    refine z_cVI (As := [.ref (X.2.2 423)]) S cv_RX10_110 (K_X10_says (isT_add (i := 23) (by decide)) h9) ok_109 (by decide) (q := (RX10, TX10, 28)) rfl rfl ⟨rfl, rfl⟩ ⟨Nat.le_of_ble_eq_true rfl, Nat.le_of_ble_eq_true rfl⟩ ⟨Nat.le_refl _, Nat.le_refl _⟩ rfl rfl (Nat.le_of_ble_eq_true rfl) dX10_plain_3 ?_
    refine z_ifb_eq (tgt := 13) S he dX10_plain_6 (by decide) (fun he => ?_) (fun he => ?_)
    · refine z_aload_n S dX10_plain_13 rfl 0 rfl ?_
      refine z_ldcS (i := 24) (j := 424) S rfl rfl dX10_plain_14 ?_
      obtain ⟨⟨r3, M4⟩, h9, he⟩ := bnd he
      dsimp only at he
      refine z_cVI (As := [.ref (X.2.2 424)]) S cv_RX10_110 (K_X10_says (isT_add (i := 24) (by decide)) h9) ok_109 (by decide) (q := (RX10, TX10, 28)) rfl rfl ⟨rfl, rfl⟩ ⟨Nat.le_of_ble_eq_true rfl, Nat.le_of_ble_eq_true rfl⟩ ⟨Nat.le_refl _, Nat.le_refl _⟩ rfl rfl (Nat.le_of_ble_eq_true rfl) dX10_plain_16 ?_
      refine z_ifb_eq (tgt := 26) S he dX10_plain_19 (by decide) (fun he => ?_) (fun he => ?_)
      · refine z_aload_n S dX10_plain_26 rfl 0 rfl ?_
        refine z_ldcS (i := 25) (j := 425) S rfl rfl dX10_plain_27 ?_
        obtain ⟨⟨r5, M6⟩, h9, he⟩ := bnd he
        dsimp only at he
        refine z_cVI (As := [.ref (X.2.2 425)]) S cv_RX10_110 (K_X10_says (isT_add (i := 25) (by decide)) h9) ok_109 (by decide) (q := (RX10, TX10, 28)) rfl rfl ⟨rfl, rfl⟩ ⟨Nat.le_of_ble_eq_true rfl, Nat.le_of_ble_eq_true rfl⟩ ⟨Nat.le_refl _, Nat.le_refl _⟩ rfl rfl (Nat.le_of_ble_eq_true rfl) dX10_plain_29 ?_
        refine z_ifb_eq (tgt := 39) S he dX10_plain_32 (by decide) (fun he => ?_) (fun he => ?_)
        · refine z_aload_n S dX10_plain_39 rfl 0 rfl ?_
          refine z_ldcS (i := 26) (j := 426) S rfl rfl dX10_plain_40 ?_
          obtain ⟨⟨r7, M8⟩, h9, he⟩ := bnd he
          dsimp only at he
          refine z_cVI (As := [.ref (X.2.2 426)]) S cv_RX10_110 (K_X10_says (isT_add (i := 26) (by decide)) h9) ok_109 (by decide) (q := (RX10, TX10, 28)) rfl rfl ⟨rfl, rfl⟩ ⟨Nat.le_of_ble_eq_true rfl, Nat.le_of_ble_eq_true rfl⟩ ⟨Nat.le_refl _, Nat.le_refl _⟩ rfl rfl (Nat.le_of_ble_eq_true rfl) dX10_plain_42 ?_
          refine z_ifb_eq (tgt := 52) S he dX10_plain_45 (by decide) (fun he => ?_) (fun he => ?_)
          · refine z_aload_n S dX10_plain_52 rfl 0 rfl ?_
            refine z_ldcS (i := 27) (j := 427) S rfl rfl dX10_plain_53 ?_
            obtain ⟨⟨r9, M10⟩, h9, he⟩ := bnd he
            dsimp only at he
            refine z_cVI (As := [.ref (X.2.2 427)]) S cv_RX10_110 (K_X10_says (isT_add (i := 27) (by decide)) h9) ok_109 (by decide) (q := (RX10, TX10, 28)) rfl rfl ⟨rfl, rfl⟩ ⟨Nat.le_of_ble_eq_true rfl, Nat.le_of_ble_eq_true rfl⟩ ⟨Nat.le_refl _, Nat.le_refl _⟩ rfl rfl (Nat.le_of_ble_eq_true rfl) dX10_plain_55 ?_
            refine z_ifb_eq (tgt := 65) S he dX10_plain_58 (by decide) (fun he => ?_) (fun he => ?_)
            · refine z_aload_n S dX10_plain_65 rfl 0 rfl ?_
              refine z_ldcS (i := 28) (j := 428) S rfl rfl dX10_plain_66 ?_
              obtain ⟨⟨r11, M12⟩, h9, he⟩ := bnd he
              dsimp only at he
              refine z_cVI (As := [.ref (X.2.2 428)]) S cv_RX10_110 (K_X10_says (isT_add (i := 28) (by decide)) h9) ok_109 (by decide) (q := (RX10, TX10, 28)) rfl rfl ⟨rfl, rfl⟩ ⟨Nat.le_of_ble_eq_true rfl, Nat.le_of_ble_eq_true rfl⟩ ⟨Nat.le_refl _, Nat.le_refl _⟩ rfl rfl (Nat.le_of_ble_eq_true rfl) dX10_plain_68 ?_
              refine z_ifb_eq (tgt := 78) S he dX10_plain_71 (by decide) (fun he => ?_) (fun he => ?_)
              · refine z_iconst (v := (-1)) S dX10_plain_78 (by decide) ?_
                exact p_X10_plain_J79 S  he
              · refine z_iconst (v := 5) S dX10_plain_74 (by decide) ?_
                refine z_goto (tgt := 79) S dX10_plain_75 (by decide) ?_
                exact p_X10_plain_J79 S  he
            · refine z_iconst (v := 4) S dX10_plain_61 (by decide) ?_
              refine z_goto (tgt := 79) S dX10_plain_62 (by decide) ?_
              exact p_X10_plain_J79 S  he
          · refine z_iconst (v := 3) S dX10_plain_48 (by decide) ?_
            refine z_goto (tgt := 79) S dX10_plain_49 (by decide) ?_
            exact p_X10_plain_J79 S  he
        · refine z_iconst (v := 2) S dX10_plain_35 (by decide) ?_
          refine z_goto (tgt := 79) S dX10_plain_36 (by decide) ?_
          exact p_X10_plain_J79 S  he
      · refine z_iconst (v := 1) S dX10_plain_22 (by decide) ?_
        refine z_goto (tgt := 79) S dX10_plain_23 (by decide) ?_
        exact p_X10_plain_J79 S  he
    · refine z_iconst (v := 0) S dX10_plain_9 (by decide) ?_
      refine z_goto (tgt := 79) S dX10_plain_10 (by decide) ?_
      exact p_X10_plain_J79 S  he
def HR_gatom (X : Cx) (l : Launch) (d : Nat) (rc : RT_gatom) : Prop := (∀ (M : Mm)  (r : Bool) (N : Mm), rc.1 M  = some (r, N) → KI X 1 l yX10_atom (wz yX10_atom cX10_atom 4 (some .boolean)) (rmr_gatom d) [.ref (X.2.2 109)] M (bI r) N) ∧ (∀ (M : Mm)  (r : Bool) (N : Mm), rc.2.1 M  = some (r, N) → KI X 1 l yX10_every (wz yX10_every cX10_every 3 (some .boolean)) (rmr_gatom d) [.ref (X.2.2 109)] M (bI r) N) ∧ (∀ (M : Mm)  (r : Bool) (N : Mm), rc.2.2 M  = some (r, N) → KI X 1 l yX10_some (wz yX10_some cX10_some 3 (some .boolean)) (rmr_gatom d) [.ref (X.2.2 109)] M (bI r) N)
set_option maxRecDepth 100000 in
set_option maxHeartbeats 4000000 in
theorem p_X10_atom_J138 {X : Cx} {p : Program} {l : Launch} {e : Env} {s : State} {m : MethodId} {args : Array Value} {below : List Frame} {meth : Method} {c : Code} {d9 : Nat} {rc : RT_gatom} (hrc : HR_gatom X l d9 rc) (S : SB X 1 p s m args meth c cX10_atom 4 (some .boolean) RX10) {M : Mm} {N : Mm} {r : Bool} {v3 : Int32}  (he : f_X10_atom_J138 rc M v3 = some (r, N)) : Z X 1 p l e (rmr_gatom (d9 + 1)) s m args below meth c 0 0 (MQ below (QI X 1 (bI r) N s.heap.size) args s 0 0 (AA X 1 s.heap.size)) 4 M 138 [(0, .ref (X.2.2 109)), (3, .int v3)] [] := by
  unfold f_X10_atom_J138 at he
  refine z_aload_n S dX10_atom_138 rfl 0 rfl ?_
  refine z_dup S rfl dX10_atom_139 ?_
  refine z_getI S fo_RX10_158 rfl ok_109 dX10_atom_140 ?_
  refine z_iconst (v := 1) S dX10_atom_143 (by decide) ?_
  refine z_isub S dX10_atom_144 ?_
  refine z_putIb S fo_RX10_158p rfl ok_109 rfl rfl he dX10_atom_145 (fun M10 he => ?_)
  refine z_iload_n S dX10_atom_148 rfl 1 rfl ?_
  rcases z_sw he with ⟨hk9, he⟩ | ⟨hk9, he⟩
  · exact z_zretv (b := false) S hk9 (Prod.mk.inj (Option.some.inj he)) dX10_atom_149
  · obtain ⟨hk8, he⟩ := grd he
    exact z_zretv (b := true) S hk8 (Prod.mk.inj (Option.some.inj he)) dX10_atom_149
set_option maxRecDepth 100000 in
set_option maxHeartbeats 4000000 in
theorem p_X10_atom_J128 {X : Cx} {p : Program} {l : Launch} {e : Env} {s : State} {m : MethodId} {args : Array Value} {below : List Frame} {meth : Method} {c : Code} {d9 : Nat} {rc : RT_gatom} (hrc : HR_gatom X l d9 rc) (S : SB X 1 p s m args meth c cX10_atom 4 (some .boolean) RX10) {M : Mm} {N : Mm} {r : Bool} {v3 : Int32}  (he : f_X10_atom_J128 rc M v3 = some (r, N)) : Z X 1 p l e (rmr_gatom (d9 + 1)) s m args below meth c 0 0 (MQ below (QI X 1 (bI r) N s.heap.size) args s 0 0 (AA X 1 s.heap.size)) 4 M 128 [(0, .ref (X.2.2 109)), (3, .int v3)] [] := by
  unfold f_X10_atom_J128 at he
  refine z_aload_n S dX10_atom_128 rfl 0 rfl ?_
  refine z_dup S rfl dX10_atom_129 ?_
  refine z_getI S fo_RX10_80 rfl ok_109 dX10_atom_130 ?_
  refine z_iconst (v := 1) S dX10_atom_133 (by decide) ?_
  refine z_iadd S dX10_atom_134 ?_
  refine z_putIb S fo_RX10_80p rfl ok_109 rfl rfl he dX10_atom_135 (fun M9 he => ?_)
  exact p_X10_atom_J138 hrc S  he
set_option maxRecDepth 100000 in
set_option maxHeartbeats 4000000 in
theorem p_X10_atom_J84 {X : Cx} {p : Program} {l : Launch} {e : Env} {s : State} {m : MethodId} {args : Array Value} {below : List Frame} {meth : Method} {c : Code} {d9 : Nat} {rc : RT_gatom} (hrc : HR_gatom X l d9 rc) (S : SB X 1 p s m args meth c cX10_atom 4 (some .boolean) RX10) {M : Mm} {N : Mm} {r : Bool} {t0 : Int32}  (he : f_X10_atom_J84 rc M t0 = some (r, N)) : Z X 1 p l e (rmr_gatom (d9 + 1)) s m args below meth c 0 0 (MQ below (QI X 1 (bI r) N s.heap.size) args s 0 0 (AA X 1 s.heap.size)) 4 M 84 [(0, .ref (X.2.2 109))] [.int t0] := by
  unfold f_X10_atom_J84 at he
  refine z_istore_n (lv' := [(0, .ref (X.2.2 109)), (3, .int t0)]) S [1, 0] dX10_atom_84 rfl (by decide) rfl ?_
  refine z_goto (tgt := 138) S dX10_atom_85 (by decide) ?_
  exact p_X10_atom_J138 hrc S  he
set_option maxRecDepth 100000 in
set_option maxHeartbeats 4000000 in
theorem p_X10_atom_J40 {X : Cx} {p : Program} {l : Launch} {e : Env} {s : State} {m : MethodId} {args : Array Value} {below : List Frame} {meth : Method} {c : Code} {d9 : Nat} {rc : RT_gatom} (hrc : HR_gatom X l d9 rc) (S : SB X 1 p s m args meth c cX10_atom 4 (some .boolean) RX10) {M : Mm} {N : Mm} {r : Bool} {v1 : Int32} {v2 : Int32}  (he : f_X10_atom_J40 rc M v1 v2 = some (r, N)) : Z X 1 p l e (rmr_gatom (d9 + 1)) s m args below meth c 0 0 (MQ below (QI X 1 (bI r) N s.heap.size) args s 0 0 (AA X 1 s.heap.size)) 4 M 40 [(0, .ref (X.2.2 109)), (1, .int v1), (2, .int v2)] [] := by
  unfold f_X10_atom_J40 at he
  refine z_aload_n S dX10_atom_40 rfl 0 rfl ?_
  refine z_getI S fo_RX10_158 rfl ok_109 dX10_atom_41 ?_
  refine z_bipush (v := 6) S dX10_atom_44 (by decide) ?_
  refine z_icmp_ne (tgt := 56) S he dX10_atom_46 (by decide) (fun he => ?_) (fun he => ?_)
  · refine z_aload_n S dX10_atom_56 rfl 0 rfl ?_
    refine z_dup S rfl dX10_atom_57 ?_
    refine z_getI S fo_RX10_158 rfl ok_109 dX10_atom_58 ?_
    refine z_iconst (v := 1) S dX10_atom_61 (by decide) ?_
    refine z_iadd S dX10_atom_62 ?_
    refine z_putIb S fo_RX10_158p rfl ok_109 rfl rfl he dX10_atom_63 (fun M5 he => ?_)
    refine z_iconst (v := 0) S dX10_atom_66 (by decide) ?_
    refine z_istore_n (lv' := [(0, .ref (X.2.2 109)), (2, .int v2)]) S [1, 3] dX10_atom_67 rfl (by decide) rfl ?_
    refine z_iload_n S dX10_atom_68 rfl 1 rfl ?_
    refine z_if_eq (tgt := 88) S he dX10_atom_69 (by decide) (fun he => ?_) (fun he => ?_)
    · refine z_aload_n S dX10_atom_88 rfl 0 rfl ?_
      refine z_dup S rfl dX10_atom_89 ?_
      refine z_getI S fo_RX10_80 rfl ok_109 dX10_atom_90 ?_
      refine z_iconst (v := 1) S dX10_atom_93 (by decide) ?_
      refine z_iadd S dX10_atom_94 ?_
      refine z_putIb S fo_RX10_80p rfl ok_109 rfl rfl he dX10_atom_95 (fun M6 he => ?_)
      refine z_aload_n S dX10_atom_98 rfl 0 rfl ?_
      obtain ⟨⟨r7, M8⟩, h9, he⟩ := bnd he
      dsimp only at he
      refine z_cVI (As := []) S cv_RX10_223 (hrc.2.2 _ _ _  h9) ok_109 (by decide) (q := (RX10, TX10, 28)) rfl rfl ⟨rfl, rfl⟩ (rr_r rfl) ⟨Nat.le_refl _, Nat.le_refl _⟩ rfl rfl (Nat.le_of_ble_eq_true rfl) dX10_atom_99 ?_
      refine z_istore_n (lv' := [(0, .ref (X.2.2 109)), (3, .int (bI r7))]) S [1, 0] dX10_atom_102 rfl (by decide) rfl ?_
      refine z_aload_n S dX10_atom_103 rfl 0 rfl ?_
      refine z_getI S fo_RX10_25 rfl ok_109 dX10_atom_104 ?_
      refine z_iconst (v := (-1)) S dX10_atom_107 (by decide) ?_
      refine z_icmp_ne (tgt := 128) S he dX10_atom_108 (by decide) (fun he => ?_) (fun he => ?_)
      · exact p_X10_atom_J128 hrc S  he
      · refine z_aload_n S dX10_atom_111 rfl 0 rfl ?_
        refine z_bipush (v := 41) S dX10_atom_112 (by decide) ?_
        obtain ⟨⟨r11, M12⟩, h9, he⟩ := bnd he
        dsimp only at he
        refine z_cVI (As := [.int 41]) S cv_RX10_167 (K_X10_isSign  h9) ok_109 (by decide) (q := (RX10, TX10, 28)) rfl rfl ⟨rfl, rfl⟩ (rr_o rfl rfl) ⟨Nat.le_refl _, Nat.le_refl _⟩ rfl rfl (Nat.le_of_ble_eq_true rfl) dX10_atom_114 ?_
        refine z_ifb_ne (tgt := 128) S he dX10_atom_117 (by decide) (fun he => ?_) (fun he => ?_)
        · exact p_X10_atom_J128 hrc S  he
        · refine z_aload_n S dX10_atom_120 rfl 0 rfl ?_
          refine z_aload_n S dX10_atom_121 rfl 0 rfl ?_
          refine z_getI S fo_RX10_80 rfl ok_109 dX10_atom_122 ?_
          obtain ⟨M13, h9, he⟩ := bnd he
          refine z_cVV (As := [.int (gI M12 109 11)]) S cv_RX10_106 (K_X10_wrong  (Option.some.inj h9)) ok_109 (by decide) (q := (RX10, TX10, 28)) rfl rfl ⟨rfl, rfl⟩ (rr_o rfl rfl) ⟨Nat.le_refl _, Nat.le_refl _⟩ rfl rfl (Nat.le_of_ble_eq_true rfl) dX10_atom_125 ?_
          exact p_X10_atom_J128 hrc S  he
    · refine z_aload_n S dX10_atom_72 rfl 0 rfl ?_
      obtain ⟨⟨r14, M15⟩, h9, he⟩ := bnd he
      dsimp only at he
      refine z_cVI (As := []) S cv_RX10_220 (hrc.1 _ _ _  h9) ok_109 (by decide) (q := (RX10, TX10, 28)) rfl rfl ⟨rfl, rfl⟩ (rr_r rfl) ⟨Nat.le_refl _, Nat.le_refl _⟩ rfl rfl (Nat.le_of_ble_eq_true rfl) dX10_atom_73 ?_
      refine z_ifb_ne (tgt := 83) S he dX10_atom_76 (by decide) (fun he => ?_) (fun he => ?_)
      · refine z_iconst (v := 0) S dX10_atom_83 (by decide) ?_
        refine z_lv (ks := [0]) rfl ?_
        exact p_X10_atom_J84 hrc S  he
      · refine z_iconst (v := 1) S dX10_atom_79 (by decide) ?_
        refine z_goto (tgt := 84) S dX10_atom_80 (by decide) ?_
        refine z_lv (ks := [0]) rfl ?_
        exact p_X10_atom_J84 hrc S  he
  · refine z_aload_n S dX10_atom_49 rfl 0 rfl ?_
    refine z_iload_n S dX10_atom_50 rfl 1 rfl ?_
    obtain ⟨M16, h9, he⟩ := bnd he
    refine z_cVV (As := [.int v1]) S cv_RX10_106 (K_X10_wrong  (Option.some.inj h9)) ok_109 (by decide) (q := (RX10, TX10, 28)) rfl rfl ⟨rfl, rfl⟩ (rr_o rfl rfl) ⟨Nat.le_refl _, Nat.le_refl _⟩ rfl rfl (Nat.le_of_ble_eq_true rfl) dX10_atom_51 ?_
    refine z_iconst (v := 0) S dX10_atom_54 (by decide) ?_
    exact z_zret0 S (Prod.mk.inj (Option.some.inj he)) dX10_atom_55
set_option maxRecDepth 100000 in
set_option maxHeartbeats 4000000 in
theorem KB_X10_atom {X : Cx} {l : Launch} {d9 : Nat} {rc : RT_gatom} (hrc : HR_gatom X l d9 rc) {M : Mm} {r : Bool} {N : Mm} (he : fB_X10_atom rc M  = some (r, N)) : KI X 1 l yX10_atom (wz yX10_atom cX10_atom 4 (some .boolean)) (rmr_gatom (d9 + 1)) [.ref (X.2.2 109)] M (bI r) N := by
  intro sz
  refine K_of (Qc := (fun sz => QI X 1 (bI r) N sz)) (own := RX10) (lv0 := [(0, .ref (X.2.2 109))]) (by decide +kernel) rfl (Nat.le_of_ble_eq_true rfl) rfl (fun p e s m args below meth c S => ?_) sz
  · unfold fB_X10_atom at he
    refine z_aload_n S dX10_atom_0 rfl 0 rfl ?_
    refine z_getI S fo_RX10_25 rfl ok_109 dX10_atom_1 ?_
    refine z_iconst (v := (-1)) S dX10_atom_4 (by decide) ?_
    refine z_icmp_eq (tgt := 10) S he dX10_atom_5 (by decide) (fun he => ?_) (fun he => ?_)
    · refine z_aload_n S dX10_atom_10 rfl 0 rfl ?_
      obtain ⟨⟨r1, M2⟩, h9, he⟩ := bnd he
      dsimp only at he
      refine z_cVI (As := []) S cv_RX10_103 (K_X10_place  h9) ok_109 (by decide) (q := (RX10, TX10, 28)) rfl rfl ⟨rfl, rfl⟩ (rr_o rfl rfl) ⟨Nat.le_refl _, Nat.le_refl _⟩ rfl rfl (Nat.le_of_ble_eq_true rfl) dX10_atom_11 ?_
      refine z_istore_n (lv' := [(0, .ref (X.2.2 109)), (1, .int r1)]) S [1, 0] dX10_atom_14 rfl (by decide) rfl ?_
      refine z_aload_n S dX10_atom_15 rfl 0 rfl ?_
      refine z_ldcS (i := 22) (j := 422) S rfl rfl dX10_atom_16 ?_
      obtain ⟨⟨r3, M4⟩, h9, he⟩ := bnd he
      dsimp only at he
      refine z_cVI (As := [.ref (X.2.2 422)]) S cv_RX10_110 (K_X10_says (isT_add (i := 22) (by decide)) h9) ok_109 (by decide) (q := (RX10, TX10, 28)) rfl rfl ⟨rfl, rfl⟩ (rr_o rfl rfl) ⟨Nat.le_refl _, Nat.le_refl _⟩ rfl rfl (Nat.le_of_ble_eq_true rfl) dX10_atom_18 ?_
      refine z_istore_n (lv' := [(0, .ref (X.2.2 109)), (1, .int r1), (2, .int (bI r3))]) S [1, 2, 0] dX10_atom_21 rfl (by decide) rfl ?_
      refine z_iload_n S dX10_atom_22 rfl 2 rfl ?_
      refine z_ifb_ne (tgt := 40) S he dX10_atom_23 (by decide) (fun he => ?_) (fun he => ?_)
      · exact p_X10_atom_J40 hrc S  he
      · refine z_aload_n S dX10_atom_26 rfl 0 rfl ?_
        refine z_bipush (v := 40) S dX10_atom_27 (by decide) ?_
        obtain ⟨⟨r17, M18⟩, h9, he⟩ := bnd he
        dsimp only at he
        refine z_cVI (As := [.int 40]) S cv_RX10_167 (K_X10_isSign  h9) ok_109 (by decide) (q := (RX10, TX10, 28)) rfl rfl ⟨rfl, rfl⟩ (rr_o rfl rfl) ⟨Nat.le_refl _, Nat.le_refl _⟩ rfl rfl (Nat.le_of_ble_eq_true rfl) dX10_atom_29 ?_
        refine z_ifb_ne (tgt := 40) S he dX10_atom_32 (by decide) (fun he => ?_) (fun he => ?_)
        · exact p_X10_atom_J40 hrc S  he
        · refine z_aload_n S dX10_atom_35 rfl 0 rfl ?_
          obtain ⟨⟨r19, M20⟩, h9, he⟩ := bnd he
          dsimp only at he
          refine z_cVI (As := []) S cv_RX10_216 (K_X10_plain  h9) ok_109 (by decide) (q := (RX10, TX10, 28)) rfl rfl ⟨rfl, rfl⟩ (rr_o rfl rfl) ⟨Nat.le_refl _, Nat.le_refl _⟩ rfl rfl (Nat.le_of_ble_eq_true rfl) dX10_atom_36 ?_
          exact z_zret S (Prod.mk.inj (Option.some.inj he)) dX10_atom_39
    · refine z_iconst (v := 0) S dX10_atom_8 (by decide) ?_
      exact z_zret0 S (Prod.mk.inj (Option.some.inj he)) dX10_atom_9
set_option maxRecDepth 100000 in
set_option maxHeartbeats 4000000 in
theorem p_X10_every_L5 {X : Cx} {p : Program} {l : Launch} {e : Env} {s : State} {m : MethodId} {args : Array Value} {below : List Frame} {meth : Method} {c : Code} {d9 : Nat} {rc : RT_gatom} (hrc : HR_gatom X l d9 rc) (S : SB X 1 p s m args meth c cX10_every 3 (some .boolean) RX10) {M : Mm} {N : Mm} {r : Bool} {v1 : Int32} {x : (Mm × Int32) ⊕ (Mm × Int32)}  (he : f_X10_every_L5 rc M v1 = some x) (hc : ∀ b, x = .inl b → Z X 1 p l e (rmr_gatom (d9 + 1)) s m args below meth c 0 0 (MQ below (QI X 1 (bI r) N s.heap.size) args s 0 0 (AA X 1 s.heap.size)) 3 b.1 5 [(0, .ref (X.2.2 109)), (1, .int b.2)] []) (hx : ∀ b, x = .inr b → Z X 1 p l e (rmr_gatom (d9 + 1)) s m args below meth c 0 0 (MQ below (QI X 1 (bI r) N s.heap.size) args s 0 0 (AA X 1 s.heap.size)) 3 b.1 44 [(1, .int b.2)] []) : Z X 1 p l e (rmr_gatom (d9 + 1)) s m args below meth c 0 0 (MQ below (QI X 1 (bI r) N s.heap.size) args s 0 0 (AA X 1 s.heap.size)) 3 M 5 [(0, .ref (X.2.2 109)), (1, .int v1)] [] := by
  unfold f_X10_every_L5 at he
  refine z_aload_n S dX10_every_5 rfl 0 rfl ?_
  refine z_getI S fo_RX10_25 rfl ok_109 dX10_every_6 ?_
  refine z_iconst (v := (-1)) S dX10_every_9 (by decide) ?_
  refine z_icmp_ne (tgt := 44) S he dX10_every_10 (by decide) (fun he => ?_) (fun he => ?_)
  · refine z_lv (ks := [1]) rfl ?_
    exact hx _ (Option.some.inj he).symm
  · refine z_aload_n S dX10_every_13 rfl 0 rfl ?_
    refine z_ldcS (i := 35) (j := 435) S rfl rfl dX10_every_14 ?_
    obtain ⟨⟨r3, M4⟩, h9, he⟩ := bnd he
    dsimp only at he
    refine z_cVI (As := [.ref (X.2.2 435)]) S cv_RX10_110 (K_X10_says (isT_add (i := 35) (by decide)) h9) ok_109 (by decide) (q := (RX10, TX10, 28)) rfl rfl ⟨rfl, rfl⟩ (rr_o rfl rfl) ⟨Nat.le_refl _, Nat.le_refl _⟩ rfl rfl (Nat.le_of_ble_eq_true rfl) dX10_every_16 ?_
    refine z_ifb_eq (tgt := 44) S he dX10_every_19 (by decide) (fun he => ?_) (fun he => ?_)
    · refine z_lv (ks := [1]) rfl ?_
      exact hx _ (Option.some.inj he).symm
    · refine z_aload_n S dX10_every_22 rfl 0 rfl ?_
      obtain ⟨⟨r5, M6⟩, h9, he⟩ := bnd he
      dsimp only at he
      refine z_cVI (As := []) S cv_RX10_220 (hrc.1 _ _ _  h9) ok_109 (by decide) (q := (RX10, TX10, 28)) rfl rfl ⟨rfl, rfl⟩ (rr_r rfl) ⟨Nat.le_refl _, Nat.le_refl _⟩ rfl rfl (Nat.le_of_ble_eq_true rfl) dX10_every_23 ?_
      refine z_istore_n (lv' := [(0, .ref (X.2.2 109)), (1, .int v1), (2, .int (bI r5))]) S [1, 2, 0] dX10_every_26 rfl (by decide) rfl ?_
      refine z_iload_n S dX10_every_27 rfl 1 rfl ?_
      refine z_if_eq (tgt := 39) S he dX10_every_28 (by decide) (fun he => ?_) (fun he => ?_)
      · refine z_iconst (v := 0) S dX10_every_39 (by decide) ?_
        refine z_istore_n (lv' := [(0, .ref (X.2.2 109)), (1, .int 0)]) S [1, 0] dX10_every_40 rfl (by decide) rfl ?_
        refine z_goto (tgt := 5) S dX10_every_41 (by decide) ?_
        refine z_lv (ks := [0, 1]) rfl ?_
        exact hc _ (Option.some.inj he).symm
      · refine z_iload_n S dX10_every_31 rfl 2 rfl ?_
        refine z_ifb_eq (tgt := 39) S he dX10_every_32 (by decide) (fun he => ?_) (fun he => ?_)
        · refine z_iconst (v := 0) S dX10_every_39 (by decide) ?_
          refine z_istore_n (lv' := [(0, .ref (X.2.2 109)), (1, .int 0)]) S [1, 0] dX10_every_40 rfl (by decide) rfl ?_
          refine z_goto (tgt := 5) S dX10_every_41 (by decide) ?_
          refine z_lv (ks := [0, 1]) rfl ?_
          exact hc _ (Option.some.inj he).symm
        · refine z_iconst (v := 1) S dX10_every_35 (by decide) ?_
          refine z_goto (tgt := 40) S dX10_every_36 (by decide) ?_
          refine z_istore_n (lv' := [(0, .ref (X.2.2 109)), (1, .int 1)]) S [1, 0] dX10_every_40 rfl (by decide) rfl ?_
          refine z_goto (tgt := 5) S dX10_every_41 (by decide) ?_
          refine z_lv (ks := [0, 1]) rfl ?_
          exact hc _ (Option.some.inj he).symm
set_option maxRecDepth 100000 in
set_option maxHeartbeats 4000000 in
theorem KB_X10_every {X : Cx} {l : Launch} {d9 : Nat} {rc : RT_gatom} (hrc : HR_gatom X l d9 rc) {M : Mm} {r : Bool} {N : Mm} (he : fB_X10_every rc M  = some (r, N)) : KI X 1 l yX10_every (wz yX10_every cX10_every 3 (some .boolean)) (rmr_gatom (d9 + 1)) [.ref (X.2.2 109)] M (bI r) N := by
  intro sz
  refine K_of (Qc := (fun sz => QI X 1 (bI r) N sz)) (own := RX10) (lv0 := [(0, .ref (X.2.2 109))]) (by decide +kernel) rfl (Nat.le_of_ble_eq_true rfl) rfl (fun p e s m args below meth c S => ?_) sz
  · unfold fB_X10_every at he
    refine z_aload_n S dX10_every_0 rfl 0 rfl ?_
    obtain ⟨⟨r1, M2⟩, h9, he⟩ := bnd he
    dsimp only at he
    refine z_cVI (As := []) S cv_RX10_220 (hrc.1 _ _ _  h9) ok_109 (by decide) (q := (RX10, TX10, 28)) rfl rfl ⟨rfl, rfl⟩ (rr_r rfl) ⟨Nat.le_refl _, Nat.le_refl _⟩ rfl rfl (Nat.le_of_ble_eq_true rfl) dX10_every_1 ?_
    refine z_istore_n (lv' := [(0, .ref (X.2.2 109)), (1, .int (bI r1))]) S [1, 0] dX10_every_4 rfl (by decide) rfl ?_
    obtain ⟨e_7, hl, he⟩ := bnd he
    have hX : Z X 1 p l e (rmr_gatom (d9 + 1)) s m args below meth c 0 0 (MQ below (QI X 1 (bI r) N s.heap.size) args s 0 0 (AA X 1 s.heap.size)) 3 e_7.1 44 [(1, .int e_7.2)] [] := by
      refine z_iload_n S dX10_every_44 rfl 0 rfl ?_
      rcases z_sw he with ⟨hk9, he⟩ | ⟨hk9, he⟩
      · exact z_zretv (b := false) S hk9 (Prod.mk.inj (Option.some.inj he)) dX10_every_45
      · obtain ⟨hk8, he⟩ := grd he
        exact z_zretv (b := true) S hk8 (Prod.mk.inj (Option.some.inj he)) dX10_every_45
    have hZ9 := loopZ (f := (fun a_7 => f_X10_every_L5 rc a_7.1 a_7.2)) (Zh := (fun a_7 => Z X 1 p l e (rmr_gatom (d9 + 1)) s m args below meth c 0 0 (MQ below (QI X 1 (bI r) N s.heap.size) args s 0 0 (AA X 1 s.heap.size)) 3 a_7.1 5 [(0, .ref (X.2.2 109)), (1, .int a_7.2)] [])) (fun a_7 x hb hc hr => p_X10_every_L5 hrc S  hb hc (fun b hxe => by rw [hr b hxe]; exact hX)) FU (M2, (bI r1)) hl
    exact hZ9
set_option maxRecDepth 100000 in
set_option maxHeartbeats 4000000 in
theorem p_X10_some_J5_35 {X : Cx} {p : Program} {l : Launch} {e : Env} {s : State} {m : MethodId} {args : Array Value} {below : List Frame} {meth : Method} {c : Code} {d9 : Nat} {rc : RT_gatom} (hrc : HR_gatom X l d9 rc) (S : SB X 1 p s m args meth c cX10_some 3 (some .boolean) RX10) {M : Mm} {N : Mm} {r : Bool} {x : (Mm × Int32) ⊕ (Mm × Int32)}  (he : f_X10_some_J5_35 rc M  = some x) (hc : ∀ b, x = .inl b → Z X 1 p l e (rmr_gatom (d9 + 1)) s m args below meth c 0 0 (MQ below (QI X 1 (bI r) N s.heap.size) args s 0 0 (AA X 1 s.heap.size)) 3 b.1 5 [(0, .ref (X.2.2 109)), (1, .int b.2)] []) (hx : ∀ b, x = .inr b → Z X 1 p l e (rmr_gatom (d9 + 1)) s m args below meth c 0 0 (MQ below (QI X 1 (bI r) N s.heap.size) args s 0 0 (AA X 1 s.heap.size)) 3 b.1 44 [(1, .int b.2)] []) : Z X 1 p l e (rmr_gatom (d9 + 1)) s m args below meth c 0 0 (MQ below (QI X 1 (bI r) N s.heap.size) args s 0 0 (AA X 1 s.heap.size)) 3 M 35 [(0, .ref (X.2.2 109))] [] := by
  unfold f_X10_some_J5_35 at he
  refine z_iconst (v := 1) S dX10_some_35 (by decide) ?_
  refine z_goto (tgt := 40) S dX10_some_36 (by decide) ?_
  refine z_istore_n (lv' := [(0, .ref (X.2.2 109)), (1, .int 1)]) S [1, 0] dX10_some_40 rfl (by decide) rfl ?_
  refine z_goto (tgt := 5) S dX10_some_41 (by decide) ?_
  refine z_lv (ks := [0, 1]) rfl ?_
  exact hc _ (Option.some.inj he).symm
set_option maxRecDepth 100000 in
set_option maxHeartbeats 4000000 in
theorem p_X10_some_L5 {X : Cx} {p : Program} {l : Launch} {e : Env} {s : State} {m : MethodId} {args : Array Value} {below : List Frame} {meth : Method} {c : Code} {d9 : Nat} {rc : RT_gatom} (hrc : HR_gatom X l d9 rc) (S : SB X 1 p s m args meth c cX10_some 3 (some .boolean) RX10) {M : Mm} {N : Mm} {r : Bool} {v1 : Int32} {x : (Mm × Int32) ⊕ (Mm × Int32)}  (he : f_X10_some_L5 rc M v1 = some x) (hc : ∀ b, x = .inl b → Z X 1 p l e (rmr_gatom (d9 + 1)) s m args below meth c 0 0 (MQ below (QI X 1 (bI r) N s.heap.size) args s 0 0 (AA X 1 s.heap.size)) 3 b.1 5 [(0, .ref (X.2.2 109)), (1, .int b.2)] []) (hx : ∀ b, x = .inr b → Z X 1 p l e (rmr_gatom (d9 + 1)) s m args below meth c 0 0 (MQ below (QI X 1 (bI r) N s.heap.size) args s 0 0 (AA X 1 s.heap.size)) 3 b.1 44 [(1, .int b.2)] []) : Z X 1 p l e (rmr_gatom (d9 + 1)) s m args below meth c 0 0 (MQ below (QI X 1 (bI r) N s.heap.size) args s 0 0 (AA X 1 s.heap.size)) 3 M 5 [(0, .ref (X.2.2 109)), (1, .int v1)] [] := by
  unfold f_X10_some_L5 at he
  refine z_aload_n S dX10_some_5 rfl 0 rfl ?_
  refine z_getI S fo_RX10_25 rfl ok_109 dX10_some_6 ?_
  refine z_iconst (v := (-1)) S dX10_some_9 (by decide) ?_
  refine z_icmp_ne (tgt := 44) S he dX10_some_10 (by decide) (fun he => ?_) (fun he => ?_)
  · refine z_lv (ks := [1]) rfl ?_
    exact hx _ (Option.some.inj he).symm
  · refine z_aload_n S dX10_some_13 rfl 0 rfl ?_
    refine z_ldcS (i := 36) (j := 436) S rfl rfl dX10_some_14 ?_
    obtain ⟨⟨r3, M4⟩, h9, he⟩ := bnd he
    dsimp only at he
    refine z_cVI (As := [.ref (X.2.2 436)]) S cv_RX10_110 (K_X10_says (isT_add (i := 36) (by decide)) h9) ok_109 (by decide) (q := (RX10, TX10, 28)) rfl rfl ⟨rfl, rfl⟩ (rr_o rfl rfl) ⟨Nat.le_refl _, Nat.le_refl _⟩ rfl rfl (Nat.le_of_ble_eq_true rfl) dX10_some_16 ?_
    refine z_ifb_eq (tgt := 44) S he dX10_some_19 (by decide) (fun he => ?_) (fun he => ?_)
    · refine z_lv (ks := [1]) rfl ?_
      exact hx _ (Option.some.inj he).symm
    · refine z_aload_n S dX10_some_22 rfl 0 rfl ?_
      obtain ⟨⟨r5, M6⟩, h9, he⟩ := bnd he
      dsimp only at he
      refine z_cVI (As := []) S cv_RX10_228 (hrc.2.1 _ _ _  h9) ok_109 (by decide) (q := (RX10, TX10, 28)) rfl rfl ⟨rfl, rfl⟩ (rr_r rfl) ⟨Nat.le_refl _, Nat.le_refl _⟩ rfl rfl (Nat.le_of_ble_eq_true rfl) dX10_some_23 ?_
      refine z_istore_n (lv' := [(0, .ref (X.2.2 109)), (1, .int v1), (2, .int (bI r5))]) S [1, 2, 0] dX10_some_26 rfl (by decide) rfl ?_
      refine z_iload_n S dX10_some_27 rfl 1 rfl ?_
      refine z_if_ne (tgt := 35) S he dX10_some_28 (by decide) (fun he => ?_) (fun he => ?_)
      · refine z_lv (ks := [0]) rfl ?_
        exact p_X10_some_J5_35 hrc S  he hc hx
      · refine z_iload_n S dX10_some_31 rfl 2 rfl ?_
        refine z_ifb_eq (tgt := 39) S he dX10_some_32 (by decide) (fun he => ?_) (fun he => ?_)
        · refine z_iconst (v := 0) S dX10_some_39 (by decide) ?_
          refine z_istore_n (lv' := [(0, .ref (X.2.2 109)), (1, .int 0)]) S [1, 0] dX10_some_40 rfl (by decide) rfl ?_
          refine z_goto (tgt := 5) S dX10_some_41 (by decide) ?_
          refine z_lv (ks := [0, 1]) rfl ?_
          exact hc _ (Option.some.inj he).symm
        · refine z_lv (ks := [0]) rfl ?_
          exact p_X10_some_J5_35 hrc S  he hc hx
set_option maxRecDepth 100000 in
set_option maxHeartbeats 4000000 in
theorem KB_X10_some {X : Cx} {l : Launch} {d9 : Nat} {rc : RT_gatom} (hrc : HR_gatom X l d9 rc) {M : Mm} {r : Bool} {N : Mm} (he : fB_X10_some rc M  = some (r, N)) : KI X 1 l yX10_some (wz yX10_some cX10_some 3 (some .boolean)) (rmr_gatom (d9 + 1)) [.ref (X.2.2 109)] M (bI r) N := by
  intro sz
  refine K_of (Qc := (fun sz => QI X 1 (bI r) N sz)) (own := RX10) (lv0 := [(0, .ref (X.2.2 109))]) (by decide +kernel) rfl (Nat.le_of_ble_eq_true rfl) rfl (fun p e s m args below meth c S => ?_) sz
  · unfold fB_X10_some at he
    refine z_aload_n S dX10_some_0 rfl 0 rfl ?_
    obtain ⟨⟨r1, M2⟩, h9, he⟩ := bnd he
    dsimp only at he
    refine z_cVI (As := []) S cv_RX10_228 (hrc.2.1 _ _ _  h9) ok_109 (by decide) (q := (RX10, TX10, 28)) rfl rfl ⟨rfl, rfl⟩ (rr_r rfl) ⟨Nat.le_refl _, Nat.le_refl _⟩ rfl rfl (Nat.le_of_ble_eq_true rfl) dX10_some_1 ?_
    refine z_istore_n (lv' := [(0, .ref (X.2.2 109)), (1, .int (bI r1))]) S [1, 0] dX10_some_4 rfl (by decide) rfl ?_
    obtain ⟨e_7, hl, he⟩ := bnd he
    have hX : Z X 1 p l e (rmr_gatom (d9 + 1)) s m args below meth c 0 0 (MQ below (QI X 1 (bI r) N s.heap.size) args s 0 0 (AA X 1 s.heap.size)) 3 e_7.1 44 [(1, .int e_7.2)] [] := by
      refine z_iload_n S dX10_some_44 rfl 0 rfl ?_
      rcases z_sw he with ⟨hk9, he⟩ | ⟨hk9, he⟩
      · exact z_zretv (b := false) S hk9 (Prod.mk.inj (Option.some.inj he)) dX10_some_45
      · obtain ⟨hk8, he⟩ := grd he
        exact z_zretv (b := true) S hk8 (Prod.mk.inj (Option.some.inj he)) dX10_some_45
    have hZ9 := loopZ (f := (fun a_7 => f_X10_some_L5 rc a_7.1 a_7.2)) (Zh := (fun a_7 => Z X 1 p l e (rmr_gatom (d9 + 1)) s m args below meth c 0 0 (MQ below (QI X 1 (bI r) N s.heap.size) args s 0 0 (AA X 1 s.heap.size)) 3 a_7.1 5 [(0, .ref (X.2.2 109)), (1, .int a_7.2)] [])) (fun a_7 x hb hc hr => p_X10_some_L5 hrc S  hb hc (fun b hxe => by rw [hr b hxe]; exact hX)) FU (M2, (bI r1)) hl
    exact hZ9
theorem HR_all_gatom {X : Cx} {l : Launch} : ∀ d, HR_gatom X l d (f_gatom d) := by
  intro d
  induction d with
  | zero => exact ⟨(fun M r N h => nomatch h), (fun M r N h => nomatch h), (fun M r N h => nomatch h)⟩
  | succ d ih => exact ⟨(fun M  r N h => KB_X10_atom ih h), (fun M  r N h => KB_X10_every ih h), (fun M  r N h => KB_X10_some ih h)⟩
theorem K_X10_atom {X : Cx} {l : Launch} {M : Mm} {r : Bool} {N : Mm} (he : f_X10_atom M  = some (r, N)) : KI X 1 l yX10_atom (wz yX10_atom cX10_atom 4 (some .boolean)) rm_X10_atom [.ref (X.2.2 109)] M (bI r) N := (HR_all_gatom 40).1 M  r N he
theorem K_X10_every {X : Cx} {l : Launch} {M : Mm} {r : Bool} {N : Mm} (he : f_X10_every M  = some (r, N)) : KI X 1 l yX10_every (wz yX10_every cX10_every 3 (some .boolean)) rm_X10_every [.ref (X.2.2 109)] M (bI r) N := (HR_all_gatom 40).2.1 M  r N he
theorem K_X10_some {X : Cx} {l : Launch} {M : Mm} {r : Bool} {N : Mm} (he : f_X10_some M  = some (r, N)) : KI X 1 l yX10_some (wz yX10_some cX10_some 3 (some .boolean)) rm_X10_some [.ref (X.2.2 109)] M (bI r) N := (HR_all_gatom 40).2.2 M  r N he
set_option maxRecDepth 100000 in
set_option maxHeartbeats 4000000 in
theorem p_X10_lawLine_J136 {X : Cx} {p : Program} {l : Launch} {e : Env} {s : State} {m : MethodId} {args : Array Value} {below : List Frame} {meth : Method} {c : Code} (S : SB X 1 p s m args meth c cX10_lawLine 6 none RX10) {M : Mm} {N : Mm} {t0 : Int32} {t1 : Int32}  (he : f_X10_lawLine_J136 M t0 t1 = some N) : Z X 1 p l e rm_X10_lawLine s m args below meth c 0 0 (MQ below (QV X 1 N s.heap.size) args s 0 0 (AA X 1 s.heap.size)) 6 M 136 [] [.int t0, .int t1, .ref (X.2.2 109)] := by
  unfold f_X10_lawLine_J136 at he
  refine z_iadd S dX10_lawLine_136 ?_
  refine z_putIb S fo_RX10_244p rfl ok_109 rfl rfl he dX10_lawLine_137 (fun M11 he => ?_)
  exact z_vret S (Option.some.inj he) dX10_lawLine_140
set_option maxRecDepth 100000 in
set_option maxHeartbeats 4000000 in
theorem p_X10_lawLine_J119 {X : Cx} {p : Program} {l : Launch} {e : Env} {s : State} {m : MethodId} {args : Array Value} {below : List Frame} {meth : Method} {c : Code} (S : SB X 1 p s m args meth c cX10_lawLine 6 none RX10) {M : Mm} {N : Mm} {v1 : Int32} {v4 : Int32}  (he : f_X10_lawLine_J119 M v1 v4 = some N) : Z X 1 p l e rm_X10_lawLine s m args below meth c 0 0 (MQ below (QV X 1 N s.heap.size) args s 0 0 (AA X 1 s.heap.size)) 6 M 119 [(0, .ref (X.2.2 109)), (1, .int v1), (4, .int v4)] [] := by
  unfold f_X10_lawLine_J119 at he
  refine z_aload_n S dX10_lawLine_119 rfl 0 rfl ?_
  refine z_dup S rfl dX10_lawLine_120 ?_
  refine z_getI S fo_RX10_244 rfl ok_109 dX10_lawLine_121 ?_
  refine z_iload_n S dX10_lawLine_124 rfl 1 rfl ?_
  refine z_if_eq (tgt := 133) S he dX10_lawLine_125 (by decide) (fun he => ?_) (fun he => ?_)
  · refine z_iload S dX10_lawLine_133 2 rfl ?_
    refine z_ineg S dX10_lawLine_135 ?_
    refine z_lv (ks := []) rfl ?_
    exact p_X10_lawLine_J136 S  he
  · refine z_iload S dX10_lawLine_128 2 rfl ?_
    refine z_goto (tgt := 136) S dX10_lawLine_130 (by decide) ?_
    refine z_lv (ks := []) rfl ?_
    exact p_X10_lawLine_J136 S  he
set_option maxRecDepth 100000 in
set_option maxHeartbeats 4000000 in
theorem p_X10_lawLine_J91 {X : Cx} {p : Program} {l : Launch} {e : Env} {s : State} {m : MethodId} {args : Array Value} {below : List Frame} {meth : Method} {c : Code} (S : SB X 1 p s m args meth c cX10_lawLine 6 none RX10) {M : Mm} {N : Mm} {v1 : Int32} {v2 : Int32} {v3 : Int32} {v4 : Int32} {t0 : Int32}  (he : f_X10_lawLine_J91 M v1 v2 v3 v4 t0 = some N) : Z X 1 p l e rm_X10_lawLine s m args below meth c 0 0 (MQ below (QV X 1 N s.heap.size) args s 0 0 (AA X 1 s.heap.size)) 6 M 91 [(0, .ref (X.2.2 109)), (1, .int v1), (2, .int v2), (3, .int v3), (4, .int v4)] [.int t0] := by
  unfold f_X10_lawLine_J91 at he
  refine z_istore (lv' := [(0, .ref (X.2.2 109)), (1, .int v1), (2, .int v2), (3, .int v3), (4, .int v4), (5, .int t0)]) S [1, 2, 3, 4, 5, 0] dX10_lawLine_91 (by decide) rfl ?_
  refine z_aload_n S dX10_lawLine_93 rfl 0 rfl ?_
  refine z_getI S fo_RX10_25 rfl ok_109 dX10_lawLine_94 ?_
  refine z_iconst (v := (-1)) S dX10_lawLine_97 (by decide) ?_
  refine z_icmp_ne (tgt := 118) S he dX10_lawLine_98 (by decide) (fun he => ?_) (fun he => ?_)
  · exact z_vret S (Option.some.inj he) dX10_lawLine_118
  · refine z_iload S dX10_lawLine_101 5 rfl ?_
    refine z_if_eq (tgt := 118) S he dX10_lawLine_103 (by decide) (fun he => ?_) (fun he => ?_)
    · exact z_vret S (Option.some.inj he) dX10_lawLine_118
    · refine z_iload_n S dX10_lawLine_106 rfl 2 rfl ?_
      refine z_if_ne (tgt := 119) S he dX10_lawLine_107 (by decide) (fun he => ?_) (fun he => ?_)
      · refine z_lv (ks := [0, 1, 4]) rfl ?_
        exact p_X10_lawLine_J119 S  he
      · refine z_iload_n S dX10_lawLine_110 rfl 3 rfl ?_
        refine z_aload_n S dX10_lawLine_111 rfl 0 rfl ?_
        refine z_getI S fo_RX10_241 rfl ok_109 dX10_lawLine_112 ?_
        refine z_icmp_eq (tgt := 119) S he dX10_lawLine_115 (by decide) (fun he => ?_) (fun he => ?_)
        · refine z_lv (ks := [0, 1, 4]) rfl ?_
          exact p_X10_lawLine_J119 S  he
        · exact z_vret S (Option.some.inj he) dX10_lawLine_118
set_option maxRecDepth 100000 in
set_option maxHeartbeats 4000000 in
theorem p_X10_lawLine_J86 {X : Cx} {p : Program} {l : Launch} {e : Env} {s : State} {m : MethodId} {args : Array Value} {below : List Frame} {meth : Method} {c : Code} (S : SB X 1 p s m args meth c cX10_lawLine 6 none RX10) {M : Mm} {N : Mm} {v1 : Int32} {v2 : Int32} {v3 : Int32} {v4 : Int32}  (he : f_X10_lawLine_J86 M v1 v2 v3 v4 = some N) : Z X 1 p l e rm_X10_lawLine s m args below meth c 0 0 (MQ below (QV X 1 N s.heap.size) args s 0 0 (AA X 1 s.heap.size)) 6 M 86 [(0, .ref (X.2.2 109)), (1, .int v1), (2, .int v2), (3, .int v3), (4, .int v4)] [] := by
  unfold f_X10_lawLine_J86 at he
  refine z_iconst (v := 1) S dX10_lawLine_86 (by decide) ?_
  refine z_goto (tgt := 91) S dX10_lawLine_87 (by decide) ?_
  exact p_X10_lawLine_J91 S  he
set_option maxRecDepth 100000 in
set_option maxHeartbeats 4000000 in
theorem p_X10_lawLine_J51 {X : Cx} {p : Program} {l : Launch} {e : Env} {s : State} {m : MethodId} {args : Array Value} {below : List Frame} {meth : Method} {c : Code} (S : SB X 1 p s m args meth c cX10_lawLine 6 none RX10) {M : Mm} {N : Mm} {v1 : Int32} {v2 : Int32} {t0 : Int32}  (he : f_X10_lawLine_J51 M v1 v2 t0 = some N) : Z X 1 p l e rm_X10_lawLine s m args below meth c 0 0 (MQ below (QV X 1 N s.heap.size) args s 0 0 (AA X 1 s.heap.size)) 6 M 51 [(0, .ref (X.2.2 109)), (1, .int v1), (2, .int v2)] [.int t0] := by
  unfold f_X10_lawLine_J51 at he
  refine z_istore_n (lv' := [(0, .ref (X.2.2 109)), (1, .int v1), (2, .int v2), (3, .int t0)]) S [1, 2, 3, 0] dX10_lawLine_51 rfl (by decide) rfl ?_
  refine z_aload_n S dX10_lawLine_52 rfl 0 rfl ?_
  refine z_iconst (v := 0) S dX10_lawLine_53 (by decide) ?_
  refine z_bipush (v := 99) S dX10_lawLine_54 (by decide) ?_
  obtain ⟨⟨r7, M8⟩, h9, he⟩ := bnd he
  dsimp only at he
  refine z_cVI (As := [.int 0, .int 99]) S cv_RX10_114 (K_X10_figures  h9) ok_109 (by decide) (q := (RX10, TX10, 28)) rfl rfl ⟨rfl, rfl⟩ ⟨Nat.le_of_ble_eq_true rfl, Nat.le_of_ble_eq_true rfl⟩ ⟨Nat.le_refl _, Nat.le_refl _⟩ rfl rfl (Nat.le_of_ble_eq_true rfl) dX10_lawLine_56 ?_
  refine z_istore (lv' := [(0, .ref (X.2.2 109)), (1, .int v1), (2, .int v2), (3, .int t0), (4, .int r7)]) S [1, 2, 3, 4, 0] dX10_lawLine_59 (by decide) rfl ?_
  refine z_aload_n S dX10_lawLine_61 rfl 0 rfl ?_
  refine z_getI S fo_RX10_25 rfl ok_109 dX10_lawLine_62 ?_
  refine z_iconst (v := (-1)) S dX10_lawLine_65 (by decide) ?_
  refine z_icmp_eq (tgt := 70) S he dX10_lawLine_66 (by decide) (fun he => ?_) (fun he => ?_)
  · refine z_aload_n S dX10_lawLine_70 rfl 0 rfl ?_
    refine z_ldcS (i := 21) (j := 421) S rfl rfl dX10_lawLine_71 ?_
    obtain ⟨⟨r9, M10⟩, h9, he⟩ := bnd he
    dsimp only at he
    refine z_cVI (As := [.ref (X.2.2 421)]) S cv_RX10_110 (K_X10_says (isT_add (i := 21) (by decide)) h9) ok_109 (by decide) (q := (RX10, TX10, 28)) rfl rfl ⟨rfl, rfl⟩ ⟨Nat.le_of_ble_eq_true rfl, Nat.le_of_ble_eq_true rfl⟩ ⟨Nat.le_refl _, Nat.le_refl _⟩ rfl rfl (Nat.le_of_ble_eq_true rfl) dX10_lawLine_73 ?_
    refine z_ifb_eq (tgt := 86) S he dX10_lawLine_76 (by decide) (fun he => ?_) (fun he => ?_)
    · exact p_X10_lawLine_J86 S  he
    · refine z_aload_n S dX10_lawLine_79 rfl 0 rfl ?_
      obtain ⟨⟨r12, M13⟩, h9, he⟩ := bnd he
      dsimp only at he
      refine z_cVI (As := []) S cv_RX10_223 (K_X10_some  h9) ok_109 (by decide) (q := (RX10, TX10, 28)) rfl rfl ⟨rfl, rfl⟩ ⟨Nat.le_of_ble_eq_true rfl, Nat.le_of_ble_eq_true rfl⟩ ⟨Nat.le_refl _, Nat.le_refl _⟩ rfl rfl (Nat.le_of_ble_eq_true rfl) dX10_lawLine_80 ?_
      refine z_ifb_eq (tgt := 90) S he dX10_lawLine_83 (by decide) (fun he => ?_) (fun he => ?_)
      · refine z_iconst (v := 0) S dX10_lawLine_90 (by decide) ?_
        exact p_X10_lawLine_J91 S  he
      · exact p_X10_lawLine_J86 S  he
  · exact z_vret S (Option.some.inj he) dX10_lawLine_69
set_option maxRecDepth 100000 in
set_option maxHeartbeats 4000000 in
theorem p_X10_lawLine_J29 {X : Cx} {p : Program} {l : Launch} {e : Env} {s : State} {m : MethodId} {args : Array Value} {below : List Frame} {meth : Method} {c : Code} (S : SB X 1 p s m args meth c cX10_lawLine 6 none RX10) {M : Mm} {N : Mm} {v1 : Int32}  (he : f_X10_lawLine_J29 M v1 = some N) : Z X 1 p l e rm_X10_lawLine s m args below meth c 0 0 (MQ below (QV X 1 N s.heap.size) args s 0 0 (AA X 1 s.heap.size)) 6 M 29 [(0, .ref (X.2.2 109)), (1, .int v1)] [] := by
  unfold f_X10_lawLine_J29 at he
  refine z_aload_n S dX10_lawLine_29 rfl 0 rfl ?_
  refine z_ldcS (i := 20) (j := 420) S rfl rfl dX10_lawLine_30 ?_
  obtain ⟨⟨r3, M4⟩, h9, he⟩ := bnd he
  dsimp only at he
  refine z_cVI (As := [.ref (X.2.2 420)]) S cv_RX10_110 (K_X10_says (isT_add (i := 20) (by decide)) h9) ok_109 (by decide) (q := (RX10, TX10, 28)) rfl rfl ⟨rfl, rfl⟩ ⟨Nat.le_of_ble_eq_true rfl, Nat.le_of_ble_eq_true rfl⟩ ⟨Nat.le_refl _, Nat.le_refl _⟩ rfl rfl (Nat.le_of_ble_eq_true rfl) dX10_lawLine_32 ?_
  refine z_istore_n (lv' := [(0, .ref (X.2.2 109)), (1, .int v1), (2, .int (bI r3))]) S [1, 2, 0] dX10_lawLine_35 rfl (by decide) rfl ?_
  refine z_iload_n S dX10_lawLine_36 rfl 2 rfl ?_
  refine z_ifb_eq (tgt := 44) S he dX10_lawLine_37 (by decide) (fun he => ?_) (fun he => ?_)
  · refine z_aload_n S dX10_lawLine_44 rfl 0 rfl ?_
    refine z_iconst (v := 0) S dX10_lawLine_45 (by decide) ?_
    refine z_bipush (v := 8) S dX10_lawLine_46 (by decide) ?_
    obtain ⟨⟨r5, M6⟩, h9, he⟩ := bnd he
    dsimp only at he
    refine z_cVI (As := [.int 0, .int 8]) S cv_RX10_114 (K_X10_figures  h9) ok_109 (by decide) (q := (RX10, TX10, 28)) rfl rfl ⟨rfl, rfl⟩ ⟨Nat.le_of_ble_eq_true rfl, Nat.le_of_ble_eq_true rfl⟩ ⟨Nat.le_refl _, Nat.le_refl _⟩ rfl rfl (Nat.le_of_ble_eq_true rfl) dX10_lawLine_48 ?_
    exact p_X10_lawLine_J51 S  he
  · refine z_iconst (v := (-1)) S dX10_lawLine_40 (by decide) ?_
    refine z_goto (tgt := 51) S dX10_lawLine_41 (by decide) ?_
    exact p_X10_lawLine_J51 S  he
set_option maxRecDepth 100000 in
set_option maxHeartbeats 4000000 in
theorem K_X10_lawLine {X : Cx} {l : Launch} {M : Mm} {N : Mm}  (he : f_X10_lawLine M  = some N) : KV X 1 l yX10_lawLine (wz yX10_lawLine cX10_lawLine 6 none) rm_X10_lawLine [.ref (X.2.2 109)] M N := by
  intro sz
  refine K_of (Qc := (fun sz => QV X 1 N sz)) (own := RX10) (lv0 := [(0, .ref (X.2.2 109))]) (by decide +kernel) rfl (Nat.le_of_ble_eq_true rfl) rfl (fun p e s m args below meth c S => ?_) sz
  · unfold f_X10_lawLine at he
    refine z_aload_n S dX10_lawLine_0 rfl 0 rfl ?_
    refine z_ldcS (i := 18) (j := 418) S rfl rfl dX10_lawLine_1 ?_
    obtain ⟨⟨r1, M2⟩, h9, he⟩ := bnd he
    dsimp only at he
    refine z_cVI (As := [.ref (X.2.2 418)]) S cv_RX10_110 (K_X10_says (isT_add (i := 18) (by decide)) h9) ok_109 (by decide) (q := (RX10, TX10, 28)) rfl rfl ⟨rfl, rfl⟩ ⟨Nat.le_of_ble_eq_true rfl, Nat.le_of_ble_eq_true rfl⟩ ⟨Nat.le_refl _, Nat.le_refl _⟩ rfl rfl (Nat.le_of_ble_eq_true rfl) dX10_lawLine_3 ?_
    refine z_istore_n (lv' := [(0, .ref (X.2.2 109)), (1, .int (bI r1))]) S [1, 0] dX10_lawLine_6 rfl (by decide) rfl ?_
    refine z_iload_n S dX10_lawLine_7 rfl 1 rfl ?_
    refine z_ifb_ne (tgt := 29) S he dX10_lawLine_8 (by decide) (fun he => ?_) (fun he => ?_)
    · exact p_X10_lawLine_J29 S  he
    · refine z_aload_n S dX10_lawLine_11 rfl 0 rfl ?_
      refine z_ldcS (i := 19) (j := 419) S rfl rfl dX10_lawLine_12 ?_
      obtain ⟨⟨r14, M15⟩, h9, he⟩ := bnd he
      dsimp only at he
      refine z_cVI (As := [.ref (X.2.2 419)]) S cv_RX10_110 (K_X10_says (isT_add (i := 19) (by decide)) h9) ok_109 (by decide) (q := (RX10, TX10, 28)) rfl rfl ⟨rfl, rfl⟩ ⟨Nat.le_of_ble_eq_true rfl, Nat.le_of_ble_eq_true rfl⟩ ⟨Nat.le_refl _, Nat.le_refl _⟩ rfl rfl (Nat.le_of_ble_eq_true rfl) dX10_lawLine_14 ?_
      refine z_ifb_ne (tgt := 29) S he dX10_lawLine_17 (by decide) (fun he => ?_) (fun he => ?_)
      · exact p_X10_lawLine_J29 S  he
      · refine z_aload_n S dX10_lawLine_20 rfl 0 rfl ?_
        refine z_aload_n S dX10_lawLine_21 rfl 0 rfl ?_
        refine z_getI S fo_RX10_80 rfl ok_109 dX10_lawLine_22 ?_
        obtain ⟨M16, h9, he⟩ := bnd he
        refine z_cVV (As := [.int (gI M15 109 11)]) S cv_RX10_106 (K_X10_wrong  (Option.some.inj h9)) ok_109 (by decide) (q := (RX10, TX10, 28)) rfl rfl ⟨rfl, rfl⟩ ⟨Nat.le_of_ble_eq_true rfl, Nat.le_of_ble_eq_true rfl⟩ ⟨Nat.le_refl _, Nat.le_refl _⟩ rfl rfl (Nat.le_of_ble_eq_true rfl) dX10_lawLine_25 ?_
        exact z_vret S (Option.some.inj he) dX10_lawLine_28
set_option maxRecDepth 100000 in
set_option maxHeartbeats 4000000 in
theorem p_X10_thingAt_L2 {X : Cx} {p : Program} {l : Launch} {e : Env} {s : State} {m : MethodId} {args : Array Value} {below : List Frame} {meth : Method} {c : Code} (S : SB X 1 p s m args meth c cX10_thingAt 3 (some .int) RX10) {M : Mm} {r : Int32} {v1 : Int32} {v2 : Int32} {x : Int32 ⊕ ((Int32) ⊕ Unit)}  (he : f_X10_thingAt_L2 M v1 v2 = some x) (hc : ∀ b, x = .inl b → Z X 1 p l e rm_X10_thingAt s m args below meth c 0 0 (MQ below (QI X 1 r M s.heap.size) args s 0 0 (AA X 1 s.heap.size)) 3 M 2 [(0, .ref (X.2.2 109)), (1, .int v1), (2, .int b)] []) (hx : ∀ b, x = .inr (.inr b) → Z X 1 p l e rm_X10_thingAt s m args below meth c 0 0 (MQ below (QI X 1 r M s.heap.size) args s 0 0 (AA X 1 s.heap.size)) 3 M 30 [] []) (hr : ∀ v, x = .inr (.inl v) → v = r) : Z X 1 p l e rm_X10_thingAt s m args below meth c 0 0 (MQ below (QI X 1 r M s.heap.size) args s 0 0 (AA X 1 s.heap.size)) 3 M 2 [(0, .ref (X.2.2 109)), (1, .int v1), (2, .int v2)] [] := by
  unfold f_X10_thingAt_L2 at he
  refine z_iload_n S dX10_thingAt_2 rfl 2 rfl ?_
  refine z_aload_n S dX10_thingAt_3 rfl 0 rfl ?_
  refine z_getF (j := 110) S fo_RX10_7 1 rfl rfl ok_109 dX10_thingAt_4 ?_
  refine z_iconst (v := 3) S dX10_thingAt_7 (by decide) ?_
  refine z_iald S ok_110 rfl he dX10_thingAt_8 (fun he => ?_)
  refine z_icmp_ge (tgt := 30) S he dX10_thingAt_9 (by decide) (fun he => ?_) (fun he => ?_)
  · refine z_lv (ks := []) rfl ?_
    exact hx _ (Option.some.inj he).symm
  · refine z_aload_n S dX10_thingAt_12 rfl 0 rfl ?_
    refine z_iload_n S dX10_thingAt_13 rfl 2 rfl ?_
    refine z_iconst (v := 0) S dX10_thingAt_14 (by decide) ?_
    obtain ⟨r1, h9, he⟩ := bnd he
    refine z_cVI (As := [.int v2, .int 0]) S cv_RX10_70 (K_X10_of  h9) ok_109 (by decide) (q := (RX10, TX10, 28)) rfl rfl ⟨rfl, rfl⟩ ⟨Nat.le_of_ble_eq_true rfl, Nat.le_of_ble_eq_true rfl⟩ ⟨Nat.le_refl _, Nat.le_refl _⟩ rfl rfl (Nat.le_of_ble_eq_true rfl) dX10_thingAt_15 ?_
    refine z_iload_n S dX10_thingAt_18 rfl 1 rfl ?_
    refine z_icmp_ne (tgt := 24) S he dX10_thingAt_19 (by decide) (fun he => ?_) (fun he => ?_)
    · refine z_iinc (v := (v2 + 1)) (lv' := [(0, .ref (X.2.2 109)), (1, .int v1), (2, .int (v2 + 1))]) S [1, 2, 0] 2 dX10_thingAt_24 rfl (by rfl) (by decide) rfl ?_
      refine z_goto (tgt := 2) S dX10_thingAt_27 (by decide) ?_
      refine z_lv (ks := [0, 1, 2]) rfl ?_
      exact hc _ (Option.some.inj he).symm
    · refine z_iload_n S dX10_thingAt_22 rfl 2 rfl ?_
      exact z_iret S (⟨hr _ (Option.some.inj he).symm, rfl⟩) dX10_thingAt_23
set_option maxRecDepth 100000 in
set_option maxHeartbeats 4000000 in
theorem K_X10_thingAt {X : Cx} {l : Launch} {M : Mm} {a1 : Int32} {r : Int32}  (he : f_X10_thingAt M a1 = some r) : KI X 1 l yX10_thingAt (wz yX10_thingAt cX10_thingAt 3 (some .int)) rm_X10_thingAt [.ref (X.2.2 109), .int a1] M r M := by
  intro sz
  refine K_of (Qc := (fun sz => QI X 1 r M sz)) (own := RX10) (lv0 := [(0, .ref (X.2.2 109)), (1, .int a1)]) (by decide +kernel) rfl (Nat.le_of_ble_eq_true rfl) rfl (fun p e s m args below meth c S => ?_) sz
  · unfold f_X10_thingAt at he
    refine z_iconst (v := 0) S dX10_thingAt_0 (by decide) ?_
    refine z_istore_n (lv' := [(0, .ref (X.2.2 109)), (1, .int a1), (2, .int 0)]) S [1, 2, 0] dX10_thingAt_1 rfl (by decide) rfl ?_
    obtain ⟨r9, hl, hr1, hr2⟩ := bndS he
    have hX : ∀ e_2, r9 = .inr e_2 → Z X 1 p l e rm_X10_thingAt s m args below meth c 0 0 (MQ below (QI X 1 r M s.heap.size) args s 0 0 (AA X 1 s.heap.size)) 3 M 30 [] [] := by
      intro e_2 hre
      have he := hr2 e_2 hre
      refine z_iconst (v := (-1)) S dX10_thingAt_30 (by decide) ?_
      exact z_iret S (⟨Option.some.inj he, rfl⟩) dX10_thingAt_31
    have hZ9 := loopZ (f := (fun a_2 => f_X10_thingAt_L2 M a1 a_2)) (Zh := (fun a_2 => Z X 1 p l e rm_X10_thingAt s m args below meth c 0 0 (MQ below (QI X 1 r M s.heap.size) args s 0 0 (AA X 1 s.heap.size)) 3 M 2 [(0, .ref (X.2.2 109)), (1, .int a1), (2, .int a_2)] [])) (fun a_2 x hb hc hr9 => p_X10_thingAt_L2 S  hb hc (fun b hxe => hX b (hr9 _ hxe).symm) (fun v hxv => Option.some.inj (hr1 v (hr9 _ hxv).symm))) FU 0 hl
    exact hZ9
set_option maxRecDepth 100000 in
set_option maxHeartbeats 4000000 in
theorem p_X10_after_J24 {X : Cx} {p : Program} {l : Launch} {e : Env} {s : State} {m : MethodId} {args : Array Value} {below : List Frame} {meth : Method} {c : Code} (S : SB X 1 p s m args meth c cX10_after 4 (some .int) RX10) {M : Mm} {N : Mm} {r : Int32} {v2 : Int32} {v3 : Int32}  (he : f_X10_after_J24 M v2 v3 = some (r, N)) : Z X 1 p l e rm_X10_after s m args below meth c 0 0 (MQ below (QI X 1 r N s.heap.size) args s 0 0 (AA X 1 s.heap.size)) 4 M 24 [(0, .ref (X.2.2 109)), (2, .int v2), (3, .int v3)] [] := by
  unfold f_X10_after_J24 at he
  refine z_aload_n S dX10_after_24 rfl 0 rfl ?_
  refine z_iload_n S dX10_after_25 rfl 1 rfl ?_
  refine z_iload_n S dX10_after_26 rfl 2 rfl ?_
  obtain ⟨⟨r1, M2⟩, h9, he⟩ := bnd he
  dsimp only at he
  refine z_cVI (As := [.int v2, .int v3]) S cv_RX10_114 (K_X10_figures  h9) ok_109 (by decide) (q := (RX10, TX10, 28)) rfl rfl ⟨rfl, rfl⟩ ⟨Nat.le_of_ble_eq_true rfl, Nat.le_of_ble_eq_true rfl⟩ ⟨Nat.le_refl _, Nat.le_refl _⟩ rfl rfl (Nat.le_of_ble_eq_true rfl) dX10_after_27 ?_
  exact z_iret S (Prod.mk.inj (Option.some.inj he)) dX10_after_30
set_option maxRecDepth 100000 in
set_option maxHeartbeats 4000000 in
theorem K_X10_after {X : Cx} {l : Launch} {M : Mm} {a1 : Nat} {a2 : Int32} {a3 : Int32} {r : Int32} {N : Mm} (h_a1 : isT a1 = true) (he : f_X10_after M a1 a2 a3 = some (r, N)) : KI X 1 l yX10_after (wz yX10_after cX10_after 4 (some .int)) rm_X10_after [.ref (X.2.2 109), .ref (X.2.2 a1), .int a2, .int a3] M r N := by
  intro sz
  refine K_of (Qc := (fun sz => QI X 1 r N sz)) (own := RX10) (lv0 := [(0, .ref (X.2.2 109)), (1, .ref (X.2.2 a1)), (2, .int a2), (3, .int a3)]) (by decide +kernel) rfl (Nat.le_of_ble_eq_true rfl) rfl (fun p e s m args below meth c S => ?_) sz
  · unfold f_X10_after at he
    refine z_aload_n S dX10_after_0 rfl 0 rfl ?_
    refine z_getI S fo_RX10_25 rfl ok_109 dX10_after_1 ?_
    refine z_iconst (v := (-1)) S dX10_after_4 (by decide) ?_
    refine z_icmp_ne (tgt := 24) S he dX10_after_5 (by decide) (fun he => ?_) (fun he => ?_)
    · refine z_lv (ks := [0, 2, 3]) rfl ?_
      exact p_X10_after_J24 S  he
    · refine z_aload_n S dX10_after_8 rfl 0 rfl ?_
      refine z_aload_n S dX10_after_9 rfl 1 rfl ?_
      obtain ⟨⟨r3, M4⟩, h9, he⟩ := bnd he
      dsimp only at he
      refine z_cVI (As := [.ref (X.2.2 a1)]) S cv_RX10_110 (K_X10_says h_a1 h9) ok_109 (by decide) (q := (RX10, TX10, 28)) rfl rfl ⟨rfl, rfl⟩ ⟨Nat.le_of_ble_eq_true rfl, Nat.le_of_ble_eq_true rfl⟩ ⟨Nat.le_refl _, Nat.le_refl _⟩ rfl rfl (Nat.le_of_ble_eq_true rfl) dX10_after_10 ?_
      refine z_ifb_ne (tgt := 24) S he dX10_after_13 (by decide) (fun he => ?_) (fun he => ?_)
      · refine z_lv (ks := [0, 2, 3]) rfl ?_
        exact p_X10_after_J24 S  he
      · refine z_aload_n S dX10_after_16 rfl 0 rfl ?_
        refine z_aload_n S dX10_after_17 rfl 0 rfl ?_
        refine z_getI S fo_RX10_80 rfl ok_109 dX10_after_18 ?_
        obtain ⟨M5, h9, he⟩ := bnd he
        refine z_cVV (As := [.int (gI M4 109 11)]) S cv_RX10_106 (K_X10_wrong  (Option.some.inj h9)) ok_109 (by decide) (q := (RX10, TX10, 28)) rfl rfl ⟨rfl, rfl⟩ ⟨Nat.le_of_ble_eq_true rfl, Nat.le_of_ble_eq_true rfl⟩ ⟨Nat.le_refl _, Nat.le_refl _⟩ rfl rfl (Nat.le_of_ble_eq_true rfl) dX10_after_21 ?_
        refine z_lv (ks := [0, 2, 3]) rfl ?_
        exact p_X10_after_J24 S  he
set_option maxRecDepth 100000 in
set_option maxHeartbeats 4000000 in
theorem p_X10_thingLine_J76 {X : Cx} {p : Program} {l : Launch} {e : Env} {s : State} {m : MethodId} {args : Array Value} {below : List Frame} {meth : Method} {c : Code} (S : SB X 1 p s m args meth c cX10_thingLine 7 none RX10) {M : Mm} {N : Mm} {v3 : Int32}  (he : f_X10_thingLine_J76 M v3 = some N) : Z X 1 p l e rm_X10_thingLine s m args below meth c 0 0 (MQ below (QV X 1 N s.heap.size) args s 0 0 (AA X 1 s.heap.size)) 7 M 76 [(0, .ref (X.2.2 109)), (3, .int v3)] [] := by
  unfold f_X10_thingLine_J76 at he
  refine z_aload_n S dX10_thingLine_76 rfl 0 rfl ?_
  refine z_ldcS (i := 39) (j := 439) S rfl rfl dX10_thingLine_77 ?_
  refine z_iconst (v := 0) S dX10_thingLine_79 (by decide) ?_
  refine z_bipush (v := 99) S dX10_thingLine_80 (by decide) ?_
  obtain ⟨⟨r5, M6⟩, h9, he⟩ := bnd he
  dsimp only at he
  refine z_cVI (As := [.ref (X.2.2 439), .int 0, .int 99]) S cv_RX10_127 (K_X10_after (isT_add (i := 39) (by decide)) h9) ok_109 (by decide) (q := (RX10, TX10, 28)) rfl rfl ⟨rfl, rfl⟩ ⟨Nat.le_of_ble_eq_true rfl, Nat.le_of_ble_eq_true rfl⟩ ⟨Nat.le_refl _, Nat.le_refl _⟩ rfl rfl (Nat.le_of_ble_eq_true rfl) dX10_thingLine_82 ?_
  refine z_istore (lv' := [(0, .ref (X.2.2 109)), (3, .int v3), (4, .int r5)]) S [1, 2, 0] dX10_thingLine_85 (by decide) rfl ?_
  refine z_aload_n S dX10_thingLine_87 rfl 0 rfl ?_
  refine z_ldcS (i := 40) (j := 440) S rfl rfl dX10_thingLine_88 ?_
  refine z_iconst (v := 1) S dX10_thingLine_90 (by decide) ?_
  refine z_iconst (v := 3) S dX10_thingLine_91 (by decide) ?_
  obtain ⟨⟨r7, M8⟩, h9, he⟩ := bnd he
  dsimp only at he
  refine z_cVI (As := [.ref (X.2.2 440), .int 1, .int 3]) S cv_RX10_127 (K_X10_after (isT_add (i := 40) (by decide)) h9) ok_109 (by decide) (q := (RX10, TX10, 28)) rfl rfl ⟨rfl, rfl⟩ ⟨Nat.le_of_ble_eq_true rfl, Nat.le_of_ble_eq_true rfl⟩ ⟨Nat.le_refl _, Nat.le_refl _⟩ rfl rfl (Nat.le_of_ble_eq_true rfl) dX10_thingLine_92 ?_
  refine z_istore (lv' := [(0, .ref (X.2.2 109)), (3, .int v3), (4, .int r5), (5, .int r7)]) S [1, 2, 3, 0] dX10_thingLine_95 (by decide) rfl ?_
  refine z_aload_n S dX10_thingLine_97 rfl 0 rfl ?_
  refine z_getI S fo_RX10_25 rfl ok_109 dX10_thingLine_98 ?_
  refine z_iconst (v := (-1)) S dX10_thingLine_101 (by decide) ?_
  refine z_icmp_eq (tgt := 106) S he dX10_thingLine_102 (by decide) (fun he => ?_) (fun he => ?_)
  · refine z_bipush (v := 12) S dX10_thingLine_106 (by decide) ?_
    refine z_iconst (v := 5) S dX10_thingLine_108 (by decide) ?_
    refine z_aload_n S dX10_thingLine_109 rfl 0 rfl ?_
    refine z_getF (j := 110) S fo_RX10_7 1 rfl rfl ok_109 dX10_thingLine_110 ?_
    refine z_iconst (v := 3) S dX10_thingLine_113 (by decide) ?_
    refine z_iald S ok_110 rfl he dX10_thingLine_114 (fun he => ?_)
    refine z_imul S dX10_thingLine_115 ?_
    refine z_iadd S dX10_thingLine_116 ?_
    obtain ⟨x9, ex9, he⟩ := bnd he
    rw [Option.some.inj ex9]
    refine z_istore (lv' := [(0, .ref (X.2.2 109)), (3, .int v3), (4, .int r5), (5, .int r7), (6, .int x9)]) S [1, 2, 3, 4, 0] dX10_thingLine_117 (by decide) rfl ?_
    refine z_aload_n S dX10_thingLine_119 rfl 0 rfl ?_
    refine z_getF (j := 110) S fo_RX10_7 1 rfl rfl ok_109 dX10_thingLine_120 ?_
    refine z_iload S dX10_thingLine_123 4 rfl ?_
    refine z_iconst (v := 0) S dX10_thingLine_125 (by decide) ?_
    refine z_iadd S dX10_thingLine_126 ?_
    refine z_iload_n S dX10_thingLine_127 rfl 1 rfl ?_
    refine z_iastb S ok_110 rfl he dX10_thingLine_128 (fun M10 he => ?_)
    refine z_aload_n S dX10_thingLine_129 rfl 0 rfl ?_
    refine z_getF (j := 110) S fo_RX10_7 1 rfl rfl ok_109 dX10_thingLine_130 ?_
    refine z_iload S dX10_thingLine_133 4 rfl ?_
    refine z_iconst (v := 1) S dX10_thingLine_135 (by decide) ?_
    refine z_iadd S dX10_thingLine_136 ?_
    refine z_iload S dX10_thingLine_137 2 rfl ?_
    refine z_iastb S ok_110 rfl he dX10_thingLine_139 (fun M11 he => ?_)
    refine z_aload_n S dX10_thingLine_140 rfl 0 rfl ?_
    refine z_getF (j := 110) S fo_RX10_7 1 rfl rfl ok_109 dX10_thingLine_141 ?_
    refine z_iload S dX10_thingLine_144 4 rfl ?_
    refine z_iconst (v := 2) S dX10_thingLine_146 (by decide) ?_
    refine z_iadd S dX10_thingLine_147 ?_
    refine z_iload S dX10_thingLine_148 3 rfl ?_
    refine z_iastb S ok_110 rfl he dX10_thingLine_150 (fun M12 he => ?_)
    refine z_aload_n S dX10_thingLine_151 rfl 0 rfl ?_
    refine z_getF (j := 110) S fo_RX10_7 1 rfl rfl ok_109 dX10_thingLine_152 ?_
    refine z_iload S dX10_thingLine_155 4 rfl ?_
    refine z_iconst (v := 3) S dX10_thingLine_157 (by decide) ?_
    refine z_iadd S dX10_thingLine_158 ?_
    refine z_iconst (v := 1) S dX10_thingLine_159 (by decide) ?_
    refine z_iastb S ok_110 rfl he dX10_thingLine_160 (fun M13 he => ?_)
    refine z_aload_n S dX10_thingLine_161 rfl 0 rfl ?_
    refine z_getF (j := 110) S fo_RX10_7 1 rfl rfl ok_109 dX10_thingLine_162 ?_
    refine z_iload S dX10_thingLine_165 4 rfl ?_
    refine z_iconst (v := 4) S dX10_thingLine_167 (by decide) ?_
    refine z_iadd S dX10_thingLine_168 ?_
    refine z_iconst (v := 0) S dX10_thingLine_169 (by decide) ?_
    refine z_iastb S ok_110 rfl he dX10_thingLine_170 (fun M14 he => ?_)
    refine z_aload_n S dX10_thingLine_171 rfl 0 rfl ?_
    refine z_getF (j := 110) S fo_RX10_7 1 rfl rfl ok_109 dX10_thingLine_172 ?_
    refine z_iconst (v := 3) S dX10_thingLine_175 (by decide) ?_
    refine z_dup2 S dX10_thingLine_176 rfl rfl ?_
    refine z_iald S ok_110 rfl he dX10_thingLine_177 (fun he => ?_)
    refine z_iconst (v := 1) S dX10_thingLine_178 (by decide) ?_
    refine z_iadd S dX10_thingLine_179 ?_
    refine z_iastb S ok_110 rfl he dX10_thingLine_180 (fun M15 he => ?_)
    exact z_vret S (Option.some.inj he) dX10_thingLine_181
  · exact z_vret S (Option.some.inj he) dX10_thingLine_105
set_option maxRecDepth 100000 in
set_option maxHeartbeats 4000000 in
theorem p_X10_thingLine_J41 {X : Cx} {p : Program} {l : Launch} {e : Env} {s : State} {m : MethodId} {args : Array Value} {below : List Frame} {meth : Method} {c : Code} (S : SB X 1 p s m args meth c cX10_thingLine 7 none RX10) {M : Mm} {N : Mm}  (he : f_X10_thingLine_J41 M  = some N) : Z X 1 p l e rm_X10_thingLine s m args below meth c 0 0 (MQ below (QV X 1 N s.heap.size) args s 0 0 (AA X 1 s.heap.size)) 7 M 41 [(0, .ref (X.2.2 109))] [] := by
  unfold f_X10_thingLine_J41 at he
  refine z_aload_n S dX10_thingLine_41 rfl 0 rfl ?_
  obtain ⟨⟨r1, M2⟩, h9, he⟩ := bnd he
  dsimp only at he
  refine z_cVI (As := []) S cv_RX10_103 (K_X10_place  h9) ok_109 (by decide) (q := (RX10, TX10, 28)) rfl rfl ⟨rfl, rfl⟩ ⟨Nat.le_of_ble_eq_true rfl, Nat.le_of_ble_eq_true rfl⟩ ⟨Nat.le_refl _, Nat.le_refl _⟩ rfl rfl (Nat.le_of_ble_eq_true rfl) dX10_thingLine_42 ?_
  refine z_istore_n (lv' := [(0, .ref (X.2.2 109)), (2, .int r1)]) S [1, 0] dX10_thingLine_45 rfl (by decide) rfl ?_
  refine z_aload_n S dX10_thingLine_46 rfl 0 rfl ?_
  refine z_iconst (v := 0) S dX10_thingLine_47 (by decide) ?_
  refine z_bipush (v := 19) S dX10_thingLine_48 (by decide) ?_
  obtain ⟨⟨r3, M4⟩, h9, he⟩ := bnd he
  dsimp only at he
  refine z_cVI (As := [.int 0, .int 19]) S cv_RX10_114 (K_X10_figures  h9) ok_109 (by decide) (q := (RX10, TX10, 28)) rfl rfl ⟨rfl, rfl⟩ ⟨Nat.le_of_ble_eq_true rfl, Nat.le_of_ble_eq_true rfl⟩ ⟨Nat.le_refl _, Nat.le_refl _⟩ rfl rfl (Nat.le_of_ble_eq_true rfl) dX10_thingLine_50 ?_
  refine z_istore_n (lv' := [(0, .ref (X.2.2 109)), (2, .int r1), (3, .int r3)]) S [1, 2, 0] dX10_thingLine_53 rfl (by decide) rfl ?_
  refine z_aload_n S dX10_thingLine_54 rfl 0 rfl ?_
  refine z_getI S fo_RX10_25 rfl ok_109 dX10_thingLine_55 ?_
  refine z_iconst (v := (-1)) S dX10_thingLine_58 (by decide) ?_
  refine z_icmp_ne (tgt := 76) S he dX10_thingLine_59 (by decide) (fun he => ?_) (fun he => ?_)
  · refine z_lv (ks := [0, 2]) rfl ?_
    exact p_X10_thingLine_J76 S  he
  · refine z_aload_n S dX10_thingLine_62 rfl 0 rfl ?_
    refine z_iload_n S dX10_thingLine_63 rfl 2 rfl ?_
    obtain ⟨r16, h9, he⟩ := bnd he
    refine z_cVI (As := [.int r3]) S cv_RX10_122 (K_X10_thingAt  h9) ok_109 (by decide) (q := (RX10, TX10, 28)) rfl rfl ⟨rfl, rfl⟩ ⟨Nat.le_of_ble_eq_true rfl, Nat.le_of_ble_eq_true rfl⟩ ⟨Nat.le_refl _, Nat.le_refl _⟩ rfl rfl (Nat.le_of_ble_eq_true rfl) dX10_thingLine_64 ?_
    refine z_iconst (v := (-1)) S dX10_thingLine_67 (by decide) ?_
    refine z_icmp_eq (tgt := 76) S he dX10_thingLine_68 (by decide) (fun he => ?_) (fun he => ?_)
    · refine z_lv (ks := [0, 2]) rfl ?_
      exact p_X10_thingLine_J76 S  he
    · refine z_aload_n S dX10_thingLine_71 rfl 0 rfl ?_
      refine z_iload_n S dX10_thingLine_72 rfl 1 rfl ?_
      obtain ⟨M17, h9, he⟩ := bnd he
      refine z_cVV (As := [.int r1]) S cv_RX10_106 (K_X10_wrong  (Option.some.inj h9)) ok_109 (by decide) (q := (RX10, TX10, 28)) rfl rfl ⟨rfl, rfl⟩ ⟨Nat.le_of_ble_eq_true rfl, Nat.le_of_ble_eq_true rfl⟩ ⟨Nat.le_refl _, Nat.le_refl _⟩ rfl rfl (Nat.le_of_ble_eq_true rfl) dX10_thingLine_73 ?_
      refine z_lv (ks := [0, 2]) rfl ?_
      exact p_X10_thingLine_J76 S  he
set_option maxRecDepth 100000 in
set_option maxHeartbeats 4000000 in
theorem p_X10_thingLine_J16 {X : Cx} {p : Program} {l : Launch} {e : Env} {s : State} {m : MethodId} {args : Array Value} {below : List Frame} {meth : Method} {c : Code} (S : SB X 1 p s m args meth c cX10_thingLine 7 none RX10) {M : Mm} {N : Mm}  (he : f_X10_thingLine_J16 M  = some N) : Z X 1 p l e rm_X10_thingLine s m args below meth c 0 0 (MQ below (QV X 1 N s.heap.size) args s 0 0 (AA X 1 s.heap.size)) 7 M 16 [(0, .ref (X.2.2 109))] [] := by
  unfold f_X10_thingLine_J16 at he
  refine z_aload_n S dX10_thingLine_16 rfl 0 rfl ?_
  refine z_getI S fo_RX10_25 rfl ok_109 dX10_thingLine_17 ?_
  refine z_iconst (v := (-1)) S dX10_thingLine_20 (by decide) ?_
  refine z_icmp_ne (tgt := 41) S he dX10_thingLine_21 (by decide) (fun he => ?_) (fun he => ?_)
  · exact p_X10_thingLine_J41 S  he
  · refine z_aload_n S dX10_thingLine_24 rfl 0 rfl ?_
    refine z_ldcS (i := 38) (j := 438) S rfl rfl dX10_thingLine_25 ?_
    obtain ⟨⟨r18, M19⟩, h9, he⟩ := bnd he
    dsimp only at he
    refine z_cVI (As := [.ref (X.2.2 438)]) S cv_RX10_110 (K_X10_says (isT_add (i := 38) (by decide)) h9) ok_109 (by decide) (q := (RX10, TX10, 28)) rfl rfl ⟨rfl, rfl⟩ ⟨Nat.le_of_ble_eq_true rfl, Nat.le_of_ble_eq_true rfl⟩ ⟨Nat.le_refl _, Nat.le_refl _⟩ rfl rfl (Nat.le_of_ble_eq_true rfl) dX10_thingLine_27 ?_
    refine z_ifb_ne (tgt := 41) S he dX10_thingLine_30 (by decide) (fun he => ?_) (fun he => ?_)
    · exact p_X10_thingLine_J41 S  he
    · refine z_aload_n S dX10_thingLine_33 rfl 0 rfl ?_
      refine z_aload_n S dX10_thingLine_34 rfl 0 rfl ?_
      refine z_getI S fo_RX10_80 rfl ok_109 dX10_thingLine_35 ?_
      obtain ⟨M20, h9, he⟩ := bnd he
      refine z_cVV (As := [.int (gI M19 109 11)]) S cv_RX10_106 (K_X10_wrong  (Option.some.inj h9)) ok_109 (by decide) (q := (RX10, TX10, 28)) rfl rfl ⟨rfl, rfl⟩ ⟨Nat.le_of_ble_eq_true rfl, Nat.le_of_ble_eq_true rfl⟩ ⟨Nat.le_refl _, Nat.le_refl _⟩ rfl rfl (Nat.le_of_ble_eq_true rfl) dX10_thingLine_38 ?_
      exact p_X10_thingLine_J41 S  he
set_option maxRecDepth 100000 in
set_option maxHeartbeats 4000000 in
theorem K_X10_thingLine {X : Cx} {l : Launch} {M : Mm} {a1 : Int32} {N : Mm}  (he : f_X10_thingLine M a1 = some N) : KV X 1 l yX10_thingLine (wz yX10_thingLine cX10_thingLine 7 none) rm_X10_thingLine [.ref (X.2.2 109), .int a1] M N := by
  intro sz
  refine K_of (Qc := (fun sz => QV X 1 N sz)) (own := RX10) (lv0 := [(0, .ref (X.2.2 109)), (1, .int a1)]) (by decide +kernel) rfl (Nat.le_of_ble_eq_true rfl) rfl (fun p e s m args below meth c S => ?_) sz
  · unfold f_X10_thingLine at he
    refine z_aload_n S dX10_thingLine_0 rfl 0 rfl ?_
    refine z_getF (j := 110) S fo_RX10_7 1 rfl rfl ok_109 dX10_thingLine_1 ?_
    refine z_iconst (v := 3) S dX10_thingLine_4 (by decide) ?_
    refine z_iald S ok_110 rfl he dX10_thingLine_5 (fun he => ?_)
    refine z_bipush (v := 9) S dX10_thingLine_6 (by decide) ?_
    refine z_icmp_ne (tgt := 16) S he dX10_thingLine_8 (by decide) (fun he => ?_) (fun he => ?_)
    · refine z_lv (ks := [0]) rfl ?_
      exact p_X10_thingLine_J16 S  he
    · refine z_aload_n S dX10_thingLine_11 rfl 0 rfl ?_
      refine z_iload_n S dX10_thingLine_12 rfl 1 rfl ?_
      obtain ⟨M21, h9, he⟩ := bnd he
      refine z_cVV (As := [.int a1]) S cv_RX10_106 (K_X10_wrong  (Option.some.inj h9)) ok_109 (by decide) (q := (RX10, TX10, 28)) rfl rfl ⟨rfl, rfl⟩ ⟨Nat.le_of_ble_eq_true rfl, Nat.le_of_ble_eq_true rfl⟩ ⟨Nat.le_refl _, Nat.le_refl _⟩ rfl rfl (Nat.le_of_ble_eq_true rfl) dX10_thingLine_13 ?_
      refine z_lv (ks := [0]) rfl ?_
      exact p_X10_thingLine_J16 S  he
set_option maxRecDepth 100000 in
set_option maxHeartbeats 4000000 in
theorem p_X10_marks_J9_88 {X : Cx} {p : Program} {l : Launch} {e : Env} {s : State} {m : MethodId} {args : Array Value} {below : List Frame} {meth : Method} {c : Code} (S : SB X 1 p s m args meth c cX10_marks 5 (some .int) RX10) {M : Mm} {N : Mm} {r : Int32} {v1 : Int32} {v2 : Int32} {v3 : Int32} {x : (Mm × Int32 × Int32) ⊕ (Mm × Int32 × Int32)}  (he : f_X10_marks_J9_88 M v1 v2 v3 = some x) (hc : ∀ b, x = .inl b → Z X 1 p l e rm_X10_marks s m args below meth c 0 0 (MQ below (QI X 1 r N s.heap.size) args s 0 0 (AA X 1 s.heap.size)) 5 b.1 9 [(0, .ref (X.2.2 109)), (1, .int v1), (2, .int b.2.1), (3, .int b.2.2)] []) (hx : ∀ b, x = .inr b → Z X 1 p l e rm_X10_marks s m args below meth c 0 0 (MQ below (QI X 1 r N s.heap.size) args s 0 0 (AA X 1 s.heap.size)) 5 b.1 101 [(0, .ref (X.2.2 109)), (1, .int v1), (2, .int b.2.1), (3, .int b.2.2)] []) : Z X 1 p l e rm_X10_marks s m args below meth c 0 0 (MQ below (QI X 1 r N s.heap.size) args s 0 0 (AA X 1 s.heap.size)) 5 M 88 [(0, .ref (X.2.2 109)), (1, .int v1), (2, .int v2), (3, .int v3)] [] := by
  unfold f_X10_marks_J9_88 at he
  refine z_aload_n S dX10_marks_88 rfl 0 rfl ?_
  refine z_dup S rfl dX10_marks_89 ?_
  refine z_getI S fo_RX10_80 rfl ok_109 dX10_marks_90 ?_
  refine z_iconst (v := 1) S dX10_marks_93 (by decide) ?_
  refine z_iadd S dX10_marks_94 ?_
  refine z_putIb S fo_RX10_80p rfl ok_109 rfl rfl he dX10_marks_95 (fun M5 he => ?_)
  refine z_goto (tgt := 9) S dX10_marks_98 (by decide) ?_
  refine z_lv (ks := [0, 1, 2, 3]) rfl ?_
  exact hc _ (Option.some.inj he).symm
set_option maxRecDepth 100000 in
set_option maxHeartbeats 4000000 in
theorem p_X10_marks_J9_76 {X : Cx} {p : Program} {l : Launch} {e : Env} {s : State} {m : MethodId} {args : Array Value} {below : List Frame} {meth : Method} {c : Code} (S : SB X 1 p s m args meth c cX10_marks 5 (some .int) RX10) {M : Mm} {N : Mm} {r : Int32} {v1 : Int32} {v2 : Int32} {v4 : Int32} {t0 : Int32} {x : (Mm × Int32 × Int32) ⊕ (Mm × Int32 × Int32)}  (he : f_X10_marks_J9_76 M v1 v2 v4 t0 = some x) (hc : ∀ b, x = .inl b → Z X 1 p l e rm_X10_marks s m args below meth c 0 0 (MQ below (QI X 1 r N s.heap.size) args s 0 0 (AA X 1 s.heap.size)) 5 b.1 9 [(0, .ref (X.2.2 109)), (1, .int v1), (2, .int b.2.1), (3, .int b.2.2)] []) (hx : ∀ b, x = .inr b → Z X 1 p l e rm_X10_marks s m args below meth c 0 0 (MQ below (QI X 1 r N s.heap.size) args s 0 0 (AA X 1 s.heap.size)) 5 b.1 101 [(0, .ref (X.2.2 109)), (1, .int v1), (2, .int b.2.1), (3, .int b.2.2)] []) : Z X 1 p l e rm_X10_marks s m args below meth c 0 0 (MQ below (QI X 1 r N s.heap.size) args s 0 0 (AA X 1 s.heap.size)) 5 M 76 [(0, .ref (X.2.2 109)), (1, .int v1), (2, .int v2), (4, .int v4)] [.int t0] := by
  unfold f_X10_marks_J9_76 at he
  refine z_istore_n (lv' := [(0, .ref (X.2.2 109)), (1, .int v1), (2, .int v2), (3, .int t0), (4, .int v4)]) S [1, 2, 3, 0, 4] dX10_marks_76 rfl (by decide) rfl ?_
  refine z_iload_n S dX10_marks_77 rfl 3 rfl ?_
  refine z_if_eq (tgt := 88) S he dX10_marks_78 (by decide) (fun he => ?_) (fun he => ?_)
  · refine z_lv (ks := [0, 1, 2, 3]) rfl ?_
    exact p_X10_marks_J9_88 S  he hc hx
  · refine z_iload_n S dX10_marks_81 rfl 2 rfl ?_
    refine z_iconst (v := 1) S dX10_marks_82 (by decide) ?_
    refine z_iload S dX10_marks_83 4 rfl ?_
    refine z_ishl S dX10_marks_85 ?_
    refine z_ior S dX10_marks_86 ?_
    obtain ⟨x6, ex6, he⟩ := bnd he
    rw [Option.some.inj ex6]
    refine z_istore_n (lv' := [(0, .ref (X.2.2 109)), (1, .int v1), (2, .int x6), (3, .int t0)]) S [1, 2, 0, 3] dX10_marks_87 rfl (by decide) rfl ?_
    exact p_X10_marks_J9_88 S  he hc hx
set_option maxRecDepth 100000 in
set_option maxHeartbeats 4000000 in
theorem p_X10_marks_J9_75 {X : Cx} {p : Program} {l : Launch} {e : Env} {s : State} {m : MethodId} {args : Array Value} {below : List Frame} {meth : Method} {c : Code} (S : SB X 1 p s m args meth c cX10_marks 5 (some .int) RX10) {M : Mm} {N : Mm} {r : Int32} {v1 : Int32} {v2 : Int32} {v4 : Int32} {x : (Mm × Int32 × Int32) ⊕ (Mm × Int32 × Int32)}  (he : f_X10_marks_J9_75 M v1 v2 v4 = some x) (hc : ∀ b, x = .inl b → Z X 1 p l e rm_X10_marks s m args below meth c 0 0 (MQ below (QI X 1 r N s.heap.size) args s 0 0 (AA X 1 s.heap.size)) 5 b.1 9 [(0, .ref (X.2.2 109)), (1, .int v1), (2, .int b.2.1), (3, .int b.2.2)] []) (hx : ∀ b, x = .inr b → Z X 1 p l e rm_X10_marks s m args below meth c 0 0 (MQ below (QI X 1 r N s.heap.size) args s 0 0 (AA X 1 s.heap.size)) 5 b.1 101 [(0, .ref (X.2.2 109)), (1, .int v1), (2, .int b.2.1), (3, .int b.2.2)] []) : Z X 1 p l e rm_X10_marks s m args below meth c 0 0 (MQ below (QI X 1 r N s.heap.size) args s 0 0 (AA X 1 s.heap.size)) 5 M 75 [(0, .ref (X.2.2 109)), (1, .int v1), (2, .int v2), (4, .int v4)] [] := by
  unfold f_X10_marks_J9_75 at he
  refine z_iconst (v := 0) S dX10_marks_75 (by decide) ?_
  exact p_X10_marks_J9_76 S  he hc hx
set_option maxRecDepth 100000 in
set_option maxHeartbeats 4000000 in
theorem p_X10_marks_L9 {X : Cx} {p : Program} {l : Launch} {e : Env} {s : State} {m : MethodId} {args : Array Value} {below : List Frame} {meth : Method} {c : Code} (S : SB X 1 p s m args meth c cX10_marks 5 (some .int) RX10) {M : Mm} {N : Mm} {r : Int32} {v1 : Int32} {v2 : Int32} {v3 : Int32} {x : (Mm × Int32 × Int32) ⊕ (Mm × Int32 × Int32)}  (he : f_X10_marks_L9 M v1 v2 v3 = some x) (hc : ∀ b, x = .inl b → Z X 1 p l e rm_X10_marks s m args below meth c 0 0 (MQ below (QI X 1 r N s.heap.size) args s 0 0 (AA X 1 s.heap.size)) 5 b.1 9 [(0, .ref (X.2.2 109)), (1, .int v1), (2, .int b.2.1), (3, .int b.2.2)] []) (hx : ∀ b, x = .inr b → Z X 1 p l e rm_X10_marks s m args below meth c 0 0 (MQ below (QI X 1 r N s.heap.size) args s 0 0 (AA X 1 s.heap.size)) 5 b.1 101 [(0, .ref (X.2.2 109)), (1, .int v1), (2, .int b.2.1), (3, .int b.2.2)] []) : Z X 1 p l e rm_X10_marks s m args below meth c 0 0 (MQ below (QI X 1 r N s.heap.size) args s 0 0 (AA X 1 s.heap.size)) 5 M 9 [(0, .ref (X.2.2 109)), (1, .int v1), (2, .int v2), (3, .int v3)] [] := by
  unfold f_X10_marks_L9 at he
  refine z_aload_n S dX10_marks_9 rfl 0 rfl ?_
  refine z_getI S fo_RX10_80 rfl ok_109 dX10_marks_10 ?_
  refine z_aload_n S dX10_marks_13 rfl 0 rfl ?_
  refine z_getI S fo_RX10_83 rfl ok_109 dX10_marks_14 ?_
  refine z_icmp_ge (tgt := 101) S he dX10_marks_17 (by decide) (fun he => ?_) (fun he => ?_)
  · refine z_lv (ks := [0, 1, 2, 3]) rfl ?_
    exact hx _ (Option.some.inj he).symm
  · refine z_aload_n S dX10_marks_20 rfl 0 rfl ?_
    refine z_aload_n S dX10_marks_21 rfl 0 rfl ?_
    refine z_getI S fo_RX10_80 rfl ok_109 dX10_marks_22 ?_
    obtain ⟨r3, h9, he⟩ := bnd he
    refine z_cVI (As := [.int (gI M 109 11)]) S cv_RX10_86 (K_X10_letter  h9) ok_109 (by decide) (q := (RX10, TX10, 28)) rfl rfl ⟨rfl, rfl⟩ ⟨Nat.le_of_ble_eq_true rfl, Nat.le_of_ble_eq_true rfl⟩ ⟨Nat.le_refl _, Nat.le_refl _⟩ rfl rfl (Nat.le_of_ble_eq_true rfl) dX10_marks_25 ?_
    refine z_bipush (v := 97) S dX10_marks_28 (by decide) ?_
    refine z_bipush (v := 122) S dX10_marks_30 (by decide) ?_
    refine z_cSI (As := [.int r3, .int 97, .int 122]) S cs_RX10_66 (K_X10_isIn  rfl) ⟨rfl, rfl⟩ ⟨Nat.le_of_ble_eq_true rfl, Nat.le_of_ble_eq_true rfl⟩ ⟨Nat.le_refl _, Nat.le_refl _⟩ rfl rfl (Nat.le_of_ble_eq_true rfl) dX10_marks_32 ?_
    refine z_ifb_eq (tgt := 101) S he dX10_marks_35 (by decide) (fun he => ?_) (fun he => ?_)
    · refine z_lv (ks := [0, 1, 2, 3]) rfl ?_
      exact hx _ (Option.some.inj he).symm
    · refine z_aload_n S dX10_marks_38 rfl 0 rfl ?_
      refine z_aload_n S dX10_marks_39 rfl 0 rfl ?_
      refine z_getI S fo_RX10_80 rfl ok_109 dX10_marks_40 ?_
      obtain ⟨r4, h9, he⟩ := bnd he
      refine z_cVI (As := [.int (gI M 109 11)]) S cv_RX10_86 (K_X10_letter  h9) ok_109 (by decide) (q := (RX10, TX10, 28)) rfl rfl ⟨rfl, rfl⟩ ⟨Nat.le_of_ble_eq_true rfl, Nat.le_of_ble_eq_true rfl⟩ ⟨Nat.le_refl _, Nat.le_refl _⟩ rfl rfl (Nat.le_of_ble_eq_true rfl) dX10_marks_43 ?_
      refine z_bipush (v := 97) S dX10_marks_46 (by decide) ?_
      refine z_isub S dX10_marks_48 ?_
      refine z_istore (lv' := [(0, .ref (X.2.2 109)), (1, .int v1), (2, .int v2), (3, .int v3), (4, .int (r4 - 97))]) S [1, 2, 3, 4, 0] dX10_marks_49 (by decide) rfl ?_
      refine z_iload_n S dX10_marks_51 rfl 3 rfl ?_
      refine z_if_eq (tgt := 75) S he dX10_marks_52 (by decide) (fun he => ?_) (fun he => ?_)
      · refine z_lv (ks := [0, 1, 2, 4]) rfl ?_
        exact p_X10_marks_J9_75 S  he hc hx
      · refine z_iload S dX10_marks_55 4 rfl ?_
        refine z_bipush (v := 6) S dX10_marks_57 (by decide) ?_
        refine z_icmp_ge (tgt := 75) S he dX10_marks_59 (by decide) (fun he => ?_) (fun he => ?_)
        · refine z_lv (ks := [0, 1, 2, 4]) rfl ?_
          exact p_X10_marks_J9_75 S  he hc hx
        · refine z_iload_n S dX10_marks_62 rfl 2 rfl ?_
          refine z_iload S dX10_marks_63 4 rfl ?_
          refine z_cSI (As := [.int v2, .int (r4 - 97)]) S cs_RX10_117 (K_X10_isOf  rfl) ⟨rfl, rfl⟩ ⟨Nat.le_of_ble_eq_true rfl, Nat.le_of_ble_eq_true rfl⟩ ⟨Nat.le_refl _, Nat.le_refl _⟩ rfl rfl (Nat.le_of_ble_eq_true rfl) dX10_marks_65 ?_
          refine z_ifb_ne (tgt := 75) S he dX10_marks_68 (by decide) (fun he => ?_) (fun he => ?_)
          · refine z_lv (ks := [0, 1, 2, 4]) rfl ?_
            exact p_X10_marks_J9_75 S  he hc hx
          · refine z_iconst (v := 1) S dX10_marks_71 (by decide) ?_
            refine z_goto (tgt := 76) S dX10_marks_72 (by decide) ?_
            refine z_lv (ks := [0, 1, 2, 4]) rfl ?_
            exact p_X10_marks_J9_76 S  he hc hx
set_option maxRecDepth 100000 in
set_option maxHeartbeats 4000000 in
theorem p_X10_marks_J113 {X : Cx} {p : Program} {l : Launch} {e : Env} {s : State} {m : MethodId} {args : Array Value} {below : List Frame} {meth : Method} {c : Code} (S : SB X 1 p s m args meth c cX10_marks 5 (some .int) RX10) {M : Mm} {N : Mm} {r : Int32} {v1 : Int32} {v2 : Int32}  (he : f_X10_marks_J113 M v1 v2 = some (r, N)) : Z X 1 p l e rm_X10_marks s m args below meth c 0 0 (MQ below (QI X 1 r N s.heap.size) args s 0 0 (AA X 1 s.heap.size)) 5 M 113 [(0, .ref (X.2.2 109)), (1, .int v1), (2, .int v2)] [] := by
  unfold f_X10_marks_J113 at he
  refine z_aload_n S dX10_marks_113 rfl 0 rfl ?_
  refine z_iload_n S dX10_marks_114 rfl 1 rfl ?_
  obtain ⟨M8, h9, he⟩ := bnd he
  refine z_cVV (As := [.int v1]) S cv_RX10_106 (K_X10_wrong  (Option.some.inj h9)) ok_109 (by decide) (q := (RX10, TX10, 28)) rfl rfl ⟨rfl, rfl⟩ ⟨Nat.le_of_ble_eq_true rfl, Nat.le_of_ble_eq_true rfl⟩ ⟨Nat.le_refl _, Nat.le_refl _⟩ rfl rfl (Nat.le_of_ble_eq_true rfl) dX10_marks_115 ?_
  refine z_iload_n S dX10_marks_118 rfl 2 rfl ?_
  exact z_iret S (Prod.mk.inj (Option.some.inj he)) dX10_marks_119
set_option maxRecDepth 100000 in
set_option maxHeartbeats 4000000 in
theorem K_X10_marks {X : Cx} {l : Launch} {M : Mm} {r : Int32} {N : Mm}  (he : f_X10_marks M  = some (r, N)) : KI X 1 l yX10_marks (wz yX10_marks cX10_marks 5 (some .int)) rm_X10_marks [.ref (X.2.2 109)] M r N := by
  intro sz
  refine K_of (Qc := (fun sz => QI X 1 r N sz)) (own := RX10) (lv0 := [(0, .ref (X.2.2 109))]) (by decide +kernel) rfl (Nat.le_of_ble_eq_true rfl) rfl (fun p e s m args below meth c S => ?_) sz
  · unfold f_X10_marks at he
    refine z_aload_n S dX10_marks_0 rfl 0 rfl ?_
    obtain ⟨⟨r1, M2⟩, h9, he⟩ := bnd he
    dsimp only at he
    refine z_cVI (As := []) S cv_RX10_103 (K_X10_place  h9) ok_109 (by decide) (q := (RX10, TX10, 28)) rfl rfl ⟨rfl, rfl⟩ ⟨Nat.le_of_ble_eq_true rfl, Nat.le_of_ble_eq_true rfl⟩ ⟨Nat.le_refl _, Nat.le_refl _⟩ rfl rfl (Nat.le_of_ble_eq_true rfl) dX10_marks_1 ?_
    refine z_istore_n (lv' := [(0, .ref (X.2.2 109)), (1, .int r1)]) S [1, 0] dX10_marks_4 rfl (by decide) rfl ?_
    refine z_iconst (v := 0) S dX10_marks_5 (by decide) ?_
    refine z_istore_n (lv' := [(0, .ref (X.2.2 109)), (1, .int r1), (2, .int 0)]) S [1, 2, 0] dX10_marks_6 rfl (by decide) rfl ?_
    refine z_iconst (v := 1) S dX10_marks_7 (by decide) ?_
    refine z_istore_n (lv' := [(0, .ref (X.2.2 109)), (1, .int r1), (2, .int 0), (3, .int 1)]) S [1, 2, 3, 0] dX10_marks_8 rfl (by decide) rfl ?_
    obtain ⟨e_7, hl, he⟩ := bnd he
    have hX : Z X 1 p l e rm_X10_marks s m args below meth c 0 0 (MQ below (QI X 1 r N s.heap.size) args s 0 0 (AA X 1 s.heap.size)) 5 e_7.1 101 [(0, .ref (X.2.2 109)), (1, .int r1), (2, .int e_7.2.1), (3, .int e_7.2.2)] [] := by
      refine z_iload_n S dX10_marks_101 rfl 3 rfl ?_
      refine z_if_eq (tgt := 113) S he dX10_marks_102 (by decide) (fun he => ?_) (fun he => ?_)
      · refine z_lv (ks := [0, 1, 2]) rfl ?_
        exact p_X10_marks_J113 S  he
      · refine z_aload_n S dX10_marks_105 rfl 0 rfl ?_
        refine z_getI S fo_RX10_80 rfl ok_109 dX10_marks_106 ?_
        refine z_iload_n S dX10_marks_109 rfl 1 rfl ?_
        refine z_icmp_ne (tgt := 118) S he dX10_marks_110 (by decide) (fun he => ?_) (fun he => ?_)
        · refine z_iload_n S dX10_marks_118 rfl 2 rfl ?_
          exact z_iret S (Prod.mk.inj (Option.some.inj he)) dX10_marks_119
        · refine z_lv (ks := [0, 1, 2]) rfl ?_
          exact p_X10_marks_J113 S  he
    have hZ9 := loopZ (f := (fun a_7 => f_X10_marks_L9 a_7.1 r1 a_7.2.1 a_7.2.2)) (Zh := (fun a_7 => Z X 1 p l e rm_X10_marks s m args below meth c 0 0 (MQ below (QI X 1 r N s.heap.size) args s 0 0 (AA X 1 s.heap.size)) 5 a_7.1 9 [(0, .ref (X.2.2 109)), (1, .int r1), (2, .int a_7.2.1), (3, .int a_7.2.2)] [])) (fun a_7 x hb hc hr => p_X10_marks_L9 S  hb hc (fun b hxe => by rw [hr b hxe]; exact hX)) FU (M2, 0, 1) hl
    exact hZ9
set_option maxRecDepth 100000 in
set_option maxHeartbeats 4000000 in
theorem p_X10_visitorLine_J83 {X : Cx} {p : Program} {l : Launch} {e : Env} {s : State} {m : MethodId} {args : Array Value} {below : List Frame} {meth : Method} {c : Code} (S : SB X 1 p s m args meth c cX10_visitorLine 8 none RX10) {M : Mm} {N : Mm} {v2 : Int32} {v3 : Int32} {v4 : Int32} {v5 : Int32} {t0 : Int32}  (he : f_X10_visitorLine_J83 M v2 v3 v4 v5 t0 = some N) : Z X 1 p l e rm_X10_visitorLine s m args below meth c 0 0 (MQ below (QV X 1 N s.heap.size) args s 0 0 (AA X 1 s.heap.size)) 8 M 83 [(0, .ref (X.2.2 109)), (2, .int v2), (3, .int v3), (4, .int v4), (5, .int v5)] [.int t0] := by
  unfold f_X10_visitorLine_J83 at he
  refine z_istore (lv' := [(0, .ref (X.2.2 109)), (2, .int v2), (3, .int v3), (4, .int v4), (5, .int v5), (6, .int t0)]) S [1, 2, 3, 4, 5, 0] dX10_visitorLine_83 (by decide) rfl ?_
  refine z_aload_n S dX10_visitorLine_85 rfl 0 rfl ?_
  refine z_getI S fo_RX10_25 rfl ok_109 dX10_visitorLine_86 ?_
  refine z_iconst (v := (-1)) S dX10_visitorLine_89 (by decide) ?_
  refine z_icmp_eq (tgt := 94) S he dX10_visitorLine_90 (by decide) (fun he => ?_) (fun he => ?_)
  · refine z_bipush (v := 57) S dX10_visitorLine_94 (by decide) ?_
    refine z_iconst (v := 5) S dX10_visitorLine_96 (by decide) ?_
    refine z_aload_n S dX10_visitorLine_97 rfl 0 rfl ?_
    refine z_getF (j := 110) S fo_RX10_7 1 rfl rfl ok_109 dX10_visitorLine_98 ?_
    refine z_iconst (v := 4) S dX10_visitorLine_101 (by decide) ?_
    refine z_iald S ok_110 rfl he dX10_visitorLine_102 (fun he => ?_)
    refine z_imul S dX10_visitorLine_103 ?_
    refine z_iadd S dX10_visitorLine_104 ?_
    obtain ⟨x9, ex9, he⟩ := bnd he
    rw [Option.some.inj ex9]
    refine z_istore (lv' := [(0, .ref (X.2.2 109)), (2, .int v2), (3, .int v3), (4, .int v4), (5, .int v5), (6, .int t0), (7, .int x9)]) S [1, 2, 3, 4, 5, 6, 0] dX10_visitorLine_105 (by decide) rfl ?_
    refine z_aload_n S dX10_visitorLine_107 rfl 0 rfl ?_
    refine z_getF (j := 110) S fo_RX10_7 1 rfl rfl ok_109 dX10_visitorLine_108 ?_
    refine z_iload S dX10_visitorLine_111 6 rfl ?_
    refine z_iconst (v := 0) S dX10_visitorLine_113 (by decide) ?_
    refine z_iadd S dX10_visitorLine_114 ?_
    refine z_iload_n S dX10_visitorLine_115 rfl 1 rfl ?_
    refine z_iastb S ok_110 rfl he dX10_visitorLine_116 (fun M10 he => ?_)
    refine z_aload_n S dX10_visitorLine_117 rfl 0 rfl ?_
    refine z_getF (j := 110) S fo_RX10_7 1 rfl rfl ok_109 dX10_visitorLine_118 ?_
    refine z_iload S dX10_visitorLine_121 6 rfl ?_
    refine z_iconst (v := 1) S dX10_visitorLine_123 (by decide) ?_
    refine z_iadd S dX10_visitorLine_124 ?_
    refine z_iload_n S dX10_visitorLine_125 rfl 2 rfl ?_
    refine z_iastb S ok_110 rfl he dX10_visitorLine_126 (fun M11 he => ?_)
    refine z_aload_n S dX10_visitorLine_127 rfl 0 rfl ?_
    refine z_getF (j := 110) S fo_RX10_7 1 rfl rfl ok_109 dX10_visitorLine_128 ?_
    refine z_iload S dX10_visitorLine_131 6 rfl ?_
    refine z_iconst (v := 2) S dX10_visitorLine_133 (by decide) ?_
    refine z_iadd S dX10_visitorLine_134 ?_
    refine z_iload S dX10_visitorLine_135 3 rfl ?_
    refine z_iastb S ok_110 rfl he dX10_visitorLine_137 (fun M12 he => ?_)
    refine z_aload_n S dX10_visitorLine_138 rfl 0 rfl ?_
    refine z_getF (j := 110) S fo_RX10_7 1 rfl rfl ok_109 dX10_visitorLine_139 ?_
    refine z_iload S dX10_visitorLine_142 6 rfl ?_
    refine z_iconst (v := 3) S dX10_visitorLine_144 (by decide) ?_
    refine z_iadd S dX10_visitorLine_145 ?_
    refine z_iload S dX10_visitorLine_146 4 rfl ?_
    refine z_iastb S ok_110 rfl he dX10_visitorLine_148 (fun M13 he => ?_)
    refine z_aload_n S dX10_visitorLine_149 rfl 0 rfl ?_
    refine z_getF (j := 110) S fo_RX10_7 1 rfl rfl ok_109 dX10_visitorLine_150 ?_
    refine z_iload S dX10_visitorLine_153 6 rfl ?_
    refine z_iconst (v := 4) S dX10_visitorLine_155 (by decide) ?_
    refine z_iadd S dX10_visitorLine_156 ?_
    refine z_iload S dX10_visitorLine_157 5 rfl ?_
    refine z_iastb S ok_110 rfl he dX10_visitorLine_159 (fun M14 he => ?_)
    refine z_aload_n S dX10_visitorLine_160 rfl 0 rfl ?_
    refine z_getF (j := 110) S fo_RX10_7 1 rfl rfl ok_109 dX10_visitorLine_161 ?_
    refine z_iconst (v := 4) S dX10_visitorLine_164 (by decide) ?_
    refine z_dup2 S dX10_visitorLine_165 rfl rfl ?_
    refine z_iald S ok_110 rfl he dX10_visitorLine_166 (fun he => ?_)
    refine z_iconst (v := 1) S dX10_visitorLine_167 (by decide) ?_
    refine z_iadd S dX10_visitorLine_168 ?_
    refine z_iastb S ok_110 rfl he dX10_visitorLine_169 (fun M15 he => ?_)
    exact z_vret S (Option.some.inj he) dX10_visitorLine_170
  · exact z_vret S (Option.some.inj he) dX10_visitorLine_93
set_option maxRecDepth 100000 in
set_option maxHeartbeats 4000000 in
theorem p_X10_visitorLine_J82 {X : Cx} {p : Program} {l : Launch} {e : Env} {s : State} {m : MethodId} {args : Array Value} {below : List Frame} {meth : Method} {c : Code} (S : SB X 1 p s m args meth c cX10_visitorLine 8 none RX10) {M : Mm} {N : Mm} {v2 : Int32} {v3 : Int32} {v4 : Int32} {v5 : Int32}  (he : f_X10_visitorLine_J82 M v2 v3 v4 v5 = some N) : Z X 1 p l e rm_X10_visitorLine s m args below meth c 0 0 (MQ below (QV X 1 N s.heap.size) args s 0 0 (AA X 1 s.heap.size)) 8 M 82 [(0, .ref (X.2.2 109)), (2, .int v2), (3, .int v3), (4, .int v4), (5, .int v5)] [] := by
  unfold f_X10_visitorLine_J82 at he
  refine z_iconst (v := 0) S dX10_visitorLine_82 (by decide) ?_
  exact p_X10_visitorLine_J83 S  he
set_option maxRecDepth 100000 in
set_option maxHeartbeats 4000000 in
theorem p_X10_visitorLine_J16 {X : Cx} {p : Program} {l : Launch} {e : Env} {s : State} {m : MethodId} {args : Array Value} {below : List Frame} {meth : Method} {c : Code} (S : SB X 1 p s m args meth c cX10_visitorLine 8 none RX10) {M : Mm} {N : Mm}  (he : f_X10_visitorLine_J16 M  = some N) : Z X 1 p l e rm_X10_visitorLine s m args below meth c 0 0 (MQ below (QV X 1 N s.heap.size) args s 0 0 (AA X 1 s.heap.size)) 8 M 16 [(0, .ref (X.2.2 109))] [] := by
  unfold f_X10_visitorLine_J16 at he
  refine z_aload_n S dX10_visitorLine_16 rfl 0 rfl ?_
  refine z_ldcS (i := 29) (j := 429) S rfl rfl dX10_visitorLine_17 ?_
  refine z_iconst (v := 0) S dX10_visitorLine_19 (by decide) ?_
  refine z_bipush (v := 99) S dX10_visitorLine_20 (by decide) ?_
  obtain ⟨⟨r1, M2⟩, h9, he⟩ := bnd he
  dsimp only at he
  refine z_cVI (As := [.ref (X.2.2 429), .int 0, .int 99]) S cv_RX10_127 (K_X10_after (isT_add (i := 29) (by decide)) h9) ok_109 (by decide) (q := (RX10, TX10, 28)) rfl rfl ⟨rfl, rfl⟩ ⟨Nat.le_of_ble_eq_true rfl, Nat.le_of_ble_eq_true rfl⟩ ⟨Nat.le_refl _, Nat.le_refl _⟩ rfl rfl (Nat.le_of_ble_eq_true rfl) dX10_visitorLine_22 ?_
  refine z_istore_n (lv' := [(0, .ref (X.2.2 109)), (2, .int r1)]) S [1, 0] dX10_visitorLine_25 rfl (by decide) rfl ?_
  refine z_aload_n S dX10_visitorLine_26 rfl 0 rfl ?_
  refine z_ldcS (i := 30) (j := 430) S rfl rfl dX10_visitorLine_27 ?_
  refine z_iconst (v := 0) S dX10_visitorLine_29 (by decide) ?_
  refine z_bipush (v := 9) S dX10_visitorLine_30 (by decide) ?_
  obtain ⟨⟨r3, M4⟩, h9, he⟩ := bnd he
  dsimp only at he
  refine z_cVI (As := [.ref (X.2.2 430), .int 0, .int 9]) S cv_RX10_127 (K_X10_after (isT_add (i := 30) (by decide)) h9) ok_109 (by decide) (q := (RX10, TX10, 28)) rfl rfl ⟨rfl, rfl⟩ ⟨Nat.le_of_ble_eq_true rfl, Nat.le_of_ble_eq_true rfl⟩ ⟨Nat.le_refl _, Nat.le_refl _⟩ rfl rfl (Nat.le_of_ble_eq_true rfl) dX10_visitorLine_32 ?_
  refine z_istore_n (lv' := [(0, .ref (X.2.2 109)), (2, .int r1), (3, .int r3)]) S [1, 2, 0] dX10_visitorLine_35 rfl (by decide) rfl ?_
  refine z_aload_n S dX10_visitorLine_36 rfl 0 rfl ?_
  refine z_ldcS (i := 31) (j := 431) S rfl rfl dX10_visitorLine_37 ?_
  refine z_iconst (v := 0) S dX10_visitorLine_39 (by decide) ?_
  refine z_bipush (v := 9) S dX10_visitorLine_40 (by decide) ?_
  obtain ⟨⟨r5, M6⟩, h9, he⟩ := bnd he
  dsimp only at he
  refine z_cVI (As := [.ref (X.2.2 431), .int 0, .int 9]) S cv_RX10_127 (K_X10_after (isT_add (i := 31) (by decide)) h9) ok_109 (by decide) (q := (RX10, TX10, 28)) rfl rfl ⟨rfl, rfl⟩ ⟨Nat.le_of_ble_eq_true rfl, Nat.le_of_ble_eq_true rfl⟩ ⟨Nat.le_refl _, Nat.le_refl _⟩ rfl rfl (Nat.le_of_ble_eq_true rfl) dX10_visitorLine_42 ?_
  refine z_istore (lv' := [(0, .ref (X.2.2 109)), (2, .int r1), (3, .int r3), (4, .int r5)]) S [1, 2, 3, 0] dX10_visitorLine_45 (by decide) rfl ?_
  refine z_aload_n S dX10_visitorLine_47 rfl 0 rfl ?_
  refine z_ldcS (i := 42) (j := 442) S rfl rfl dX10_visitorLine_48 ?_
  refine z_iconst (v := 0) S dX10_visitorLine_50 (by decide) ?_
  refine z_bipush (v := 100) S dX10_visitorLine_51 (by decide) ?_
  obtain ⟨⟨r7, M8⟩, h9, he⟩ := bnd he
  dsimp only at he
  refine z_cVI (As := [.ref (X.2.2 442), .int 0, .int 100]) S cv_RX10_127 (K_X10_after (isT_add (i := 42) (by decide)) h9) ok_109 (by decide) (q := (RX10, TX10, 28)) rfl rfl ⟨rfl, rfl⟩ ⟨Nat.le_of_ble_eq_true rfl, Nat.le_of_ble_eq_true rfl⟩ ⟨Nat.le_refl _, Nat.le_refl _⟩ rfl rfl (Nat.le_of_ble_eq_true rfl) dX10_visitorLine_53 ?_
  refine z_istore (lv' := [(0, .ref (X.2.2 109)), (2, .int r1), (3, .int r3), (4, .int r5), (5, .int r7)]) S [1, 2, 3, 4, 0] dX10_visitorLine_56 (by decide) rfl ?_
  refine z_aload_n S dX10_visitorLine_58 rfl 0 rfl ?_
  refine z_getI S fo_RX10_25 rfl ok_109 dX10_visitorLine_59 ?_
  refine z_iconst (v := (-1)) S dX10_visitorLine_62 (by decide) ?_
  refine z_icmp_ne (tgt := 82) S he dX10_visitorLine_63 (by decide) (fun he => ?_) (fun he => ?_)
  · exact p_X10_visitorLine_J82 S  he
  · refine z_aload_n S dX10_visitorLine_66 rfl 0 rfl ?_
    refine z_ldcS (i := 43) (j := 443) S rfl rfl dX10_visitorLine_67 ?_
    obtain ⟨⟨r16, M17⟩, h9, he⟩ := bnd he
    dsimp only at he
    refine z_cVI (As := [.ref (X.2.2 443)]) S cv_RX10_110 (K_X10_says (isT_add (i := 43) (by decide)) h9) ok_109 (by decide) (q := (RX10, TX10, 28)) rfl rfl ⟨rfl, rfl⟩ ⟨Nat.le_of_ble_eq_true rfl, Nat.le_of_ble_eq_true rfl⟩ ⟨Nat.le_refl _, Nat.le_refl _⟩ rfl rfl (Nat.le_of_ble_eq_true rfl) dX10_visitorLine_69 ?_
    refine z_ifb_eq (tgt := 82) S he dX10_visitorLine_72 (by decide) (fun he => ?_) (fun he => ?_)
    · exact p_X10_visitorLine_J82 S  he
    · refine z_aload_n S dX10_visitorLine_75 rfl 0 rfl ?_
      obtain ⟨⟨r18, M19⟩, h9, he⟩ := bnd he
      dsimp only at he
      refine z_cVI (As := []) S cv_RX10_142 (K_X10_marks  h9) ok_109 (by decide) (q := (RX10, TX10, 28)) rfl rfl ⟨rfl, rfl⟩ ⟨Nat.le_of_ble_eq_true rfl, Nat.le_of_ble_eq_true rfl⟩ ⟨Nat.le_refl _, Nat.le_refl _⟩ rfl rfl (Nat.le_of_ble_eq_true rfl) dX10_visitorLine_76 ?_
      refine z_goto (tgt := 83) S dX10_visitorLine_79 (by decide) ?_
      exact p_X10_visitorLine_J83 S  he
set_option maxRecDepth 100000 in
set_option maxHeartbeats 4000000 in
theorem K_X10_visitorLine {X : Cx} {l : Launch} {M : Mm} {a1 : Int32} {N : Mm}  (he : f_X10_visitorLine M a1 = some N) : KV X 1 l yX10_visitorLine (wz yX10_visitorLine cX10_visitorLine 8 none) rm_X10_visitorLine [.ref (X.2.2 109), .int a1] M N := by
  intro sz
  refine K_of (Qc := (fun sz => QV X 1 N sz)) (own := RX10) (lv0 := [(0, .ref (X.2.2 109)), (1, .int a1)]) (by decide +kernel) rfl (Nat.le_of_ble_eq_true rfl) rfl (fun p e s m args below meth c S => ?_) sz
  · unfold f_X10_visitorLine at he
    refine z_aload_n S dX10_visitorLine_0 rfl 0 rfl ?_
    refine z_getF (j := 110) S fo_RX10_7 1 rfl rfl ok_109 dX10_visitorLine_1 ?_
    refine z_iconst (v := 4) S dX10_visitorLine_4 (by decide) ?_
    refine z_iald S ok_110 rfl he dX10_visitorLine_5 (fun he => ?_)
    refine z_bipush (v := 10) S dX10_visitorLine_6 (by decide) ?_
    refine z_icmp_ne (tgt := 16) S he dX10_visitorLine_8 (by decide) (fun he => ?_) (fun he => ?_)
    · refine z_lv (ks := [0]) rfl ?_
      exact p_X10_visitorLine_J16 S  he
    · refine z_aload_n S dX10_visitorLine_11 rfl 0 rfl ?_
      refine z_iload_n S dX10_visitorLine_12 rfl 1 rfl ?_
      obtain ⟨M20, h9, he⟩ := bnd he
      refine z_cVV (As := [.int a1]) S cv_RX10_106 (K_X10_wrong  (Option.some.inj h9)) ok_109 (by decide) (q := (RX10, TX10, 28)) rfl rfl ⟨rfl, rfl⟩ ⟨Nat.le_of_ble_eq_true rfl, Nat.le_of_ble_eq_true rfl⟩ ⟨Nat.le_refl _, Nat.le_refl _⟩ rfl rfl (Nat.le_of_ble_eq_true rfl) dX10_visitorLine_13 ?_
      refine z_lv (ks := [0]) rfl ?_
      exact p_X10_visitorLine_J16 S  he
set_option maxRecDepth 100000 in
set_option maxHeartbeats 4000000 in
theorem p_X10_hallLine_J119 {X : Cx} {p : Program} {l : Launch} {e : Env} {s : State} {m : MethodId} {args : Array Value} {below : List Frame} {meth : Method} {c : Code} (S : SB X 1 p s m args meth c cX10_hallLine 3 none RX10) {M : Mm} {N : Mm}  (he : f_X10_hallLine_J119 M  = some N) : Z X 1 p l e rm_X10_hallLine s m args below meth c 0 0 (MQ below (QV X 1 N s.heap.size) args s 0 0 (AA X 1 s.heap.size)) 3 M 119 [] [] := by
  unfold f_X10_hallLine_J119 at he
  refine z_goto (tgt := 130) S dX10_hallLine_119 (by decide) ?_
  exact z_vret S (Option.some.inj he) dX10_hallLine_130
set_option maxRecDepth 100000 in
set_option maxHeartbeats 4000000 in
theorem p_X10_hallLine_J71 {X : Cx} {p : Program} {l : Launch} {e : Env} {s : State} {m : MethodId} {args : Array Value} {below : List Frame} {meth : Method} {c : Code} (S : SB X 1 p s m args meth c cX10_hallLine 3 none RX10) {M : Mm} {N : Mm}  (he : f_X10_hallLine_J71 M  = some N) : Z X 1 p l e rm_X10_hallLine s m args below meth c 0 0 (MQ below (QV X 1 N s.heap.size) args s 0 0 (AA X 1 s.heap.size)) 3 M 71 [] [] := by
  unfold f_X10_hallLine_J71 at he
  refine z_goto (tgt := 130) S dX10_hallLine_71 (by decide) ?_
  exact z_vret S (Option.some.inj he) dX10_hallLine_130
set_option maxRecDepth 100000 in
set_option maxHeartbeats 4000000 in
theorem K_X10_hallLine {X : Cx} {l : Launch} {M : Mm} {N : Mm}  (he : f_X10_hallLine M  = some N) : KV X 1 l yX10_hallLine (wz yX10_hallLine cX10_hallLine 3 none) rm_X10_hallLine [.ref (X.2.2 109)] M N := by
  intro sz
  refine K_of (Qc := (fun sz => QV X 1 N sz)) (own := RX10) (lv0 := [(0, .ref (X.2.2 109))]) (by decide +kernel) rfl (Nat.le_of_ble_eq_true rfl) rfl (fun p e s m args below meth c S => ?_) sz
  · unfold f_X10_hallLine at he
    refine z_aload_n S dX10_hallLine_0 rfl 0 rfl ?_
    obtain ⟨⟨r1, M2⟩, h9, he⟩ := bnd he
    dsimp only at he
    refine z_cVI (As := []) S cv_RX10_103 (K_X10_place  h9) ok_109 (by decide) (q := (RX10, TX10, 28)) rfl rfl ⟨rfl, rfl⟩ ⟨Nat.le_of_ble_eq_true rfl, Nat.le_of_ble_eq_true rfl⟩ ⟨Nat.le_refl _, Nat.le_refl _⟩ rfl rfl (Nat.le_of_ble_eq_true rfl) dX10_hallLine_1 ?_
    refine z_istore_n (lv' := [(0, .ref (X.2.2 109)), (1, .int r1)]) S [1, 0] dX10_hallLine_4 rfl (by decide) rfl ?_
    refine z_aload_n S dX10_hallLine_5 rfl 0 rfl ?_
    refine z_ldcS (i := 37) (j := 437) S rfl rfl dX10_hallLine_6 ?_
    obtain ⟨⟨r3, M4⟩, h9, he⟩ := bnd he
    dsimp only at he
    refine z_cVI (As := [.ref (X.2.2 437)]) S cv_RX10_110 (K_X10_says (isT_add (i := 37) (by decide)) h9) ok_109 (by decide) (q := (RX10, TX10, 28)) rfl rfl ⟨rfl, rfl⟩ ⟨Nat.le_of_ble_eq_true rfl, Nat.le_of_ble_eq_true rfl⟩ ⟨Nat.le_refl _, Nat.le_refl _⟩ rfl rfl (Nat.le_of_ble_eq_true rfl) dX10_hallLine_8 ?_
    refine z_ifb_eq (tgt := 22) S he dX10_hallLine_11 (by decide) (fun he => ?_) (fun he => ?_)
    · refine z_aload_n S dX10_hallLine_22 rfl 0 rfl ?_
      refine z_ldcS (i := 41) (j := 441) S rfl rfl dX10_hallLine_23 ?_
      obtain ⟨⟨r5, M6⟩, h9, he⟩ := bnd he
      dsimp only at he
      refine z_cVI (As := [.ref (X.2.2 441)]) S cv_RX10_110 (K_X10_says (isT_add (i := 41) (by decide)) h9) ok_109 (by decide) (q := (RX10, TX10, 28)) rfl rfl ⟨rfl, rfl⟩ ⟨Nat.le_of_ble_eq_true rfl, Nat.le_of_ble_eq_true rfl⟩ ⟨Nat.le_refl _, Nat.le_refl _⟩ rfl rfl (Nat.le_of_ble_eq_true rfl) dX10_hallLine_25 ?_
      refine z_ifb_eq (tgt := 39) S he dX10_hallLine_28 (by decide) (fun he => ?_) (fun he => ?_)
      · refine z_aload_n S dX10_hallLine_39 rfl 0 rfl ?_
        refine z_ldcS (i := 44) (j := 444) S rfl rfl dX10_hallLine_40 ?_
        obtain ⟨⟨r7, M8⟩, h9, he⟩ := bnd he
        dsimp only at he
        refine z_cVI (As := [.ref (X.2.2 444)]) S cv_RX10_110 (K_X10_says (isT_add (i := 44) (by decide)) h9) ok_109 (by decide) (q := (RX10, TX10, 28)) rfl rfl ⟨rfl, rfl⟩ ⟨Nat.le_of_ble_eq_true rfl, Nat.le_of_ble_eq_true rfl⟩ ⟨Nat.le_refl _, Nat.le_refl _⟩ rfl rfl (Nat.le_of_ble_eq_true rfl) dX10_hallLine_42 ?_
        refine z_ifb_eq (tgt := 74) S he dX10_hallLine_45 (by decide) (fun he => ?_) (fun he => ?_)
        · refine z_aload_n S dX10_hallLine_74 rfl 0 rfl ?_
          refine z_ldcS (i := 45) (j := 445) S rfl rfl dX10_hallLine_75 ?_
          obtain ⟨⟨r9, M10⟩, h9, he⟩ := bnd he
          dsimp only at he
          refine z_cVI (As := [.ref (X.2.2 445)]) S cv_RX10_110 (K_X10_says (isT_add (i := 45) (by decide)) h9) ok_109 (by decide) (q := (RX10, TX10, 28)) rfl rfl ⟨rfl, rfl⟩ ⟨Nat.le_of_ble_eq_true rfl, Nat.le_of_ble_eq_true rfl⟩ ⟨Nat.le_refl _, Nat.le_refl _⟩ rfl rfl (Nat.le_of_ble_eq_true rfl) dX10_hallLine_77 ?_
          refine z_ifb_eq (tgt := 122) S he dX10_hallLine_80 (by decide) (fun he => ?_) (fun he => ?_)
          · refine z_aload_n S dX10_hallLine_122 rfl 0 rfl ?_
            refine z_aload_n S dX10_hallLine_123 rfl 0 rfl ?_
            refine z_getI S fo_RX10_80 rfl ok_109 dX10_hallLine_124 ?_
            obtain ⟨M11, h9, he⟩ := bnd he
            refine z_cVV (As := [.int (gI M10 109 11)]) S cv_RX10_106 (K_X10_wrong  (Option.some.inj h9)) ok_109 (by decide) (q := (RX10, TX10, 28)) rfl rfl ⟨rfl, rfl⟩ ⟨Nat.le_of_ble_eq_true rfl, Nat.le_of_ble_eq_true rfl⟩ ⟨Nat.le_refl _, Nat.le_refl _⟩ rfl rfl (Nat.le_of_ble_eq_true rfl) dX10_hallLine_127 ?_
            exact z_vret S (Option.some.inj he) dX10_hallLine_130
          · refine z_aload_n S dX10_hallLine_83 rfl 0 rfl ?_
            refine z_iconst (v := 0) S dX10_hallLine_84 (by decide) ?_
            refine z_aload_n S dX10_hallLine_85 rfl 0 rfl ?_
            refine z_getF (j := 110) S fo_RX10_7 1 rfl rfl ok_109 dX10_hallLine_86 ?_
            refine z_iconst (v := 3) S dX10_hallLine_89 (by decide) ?_
            refine z_iald S ok_110 rfl he dX10_hallLine_90 (fun he => ?_)
            refine z_iconst (v := 1) S dX10_hallLine_91 (by decide) ?_
            refine z_isub S dX10_hallLine_92 ?_
            obtain ⟨⟨r12, M13⟩, h9, he⟩ := bnd he
            dsimp only at he
            refine z_cVI (As := [.int 0, .int ((gA M10 110 3) - 1)]) S cv_RX10_114 (K_X10_figures  h9) ok_109 (by decide) (q := (RX10, TX10, 28)) rfl rfl ⟨rfl, rfl⟩ ⟨Nat.le_of_ble_eq_true rfl, Nat.le_of_ble_eq_true rfl⟩ ⟨Nat.le_refl _, Nat.le_refl _⟩ rfl rfl (Nat.le_of_ble_eq_true rfl) dX10_hallLine_93 ?_
            refine z_istore_n (lv' := [(0, .ref (X.2.2 109)), (2, .int r12)]) S [1, 0] dX10_hallLine_96 rfl (by decide) rfl ?_
            refine z_aload_n S dX10_hallLine_97 rfl 0 rfl ?_
            refine z_getI S fo_RX10_25 rfl ok_109 dX10_hallLine_98 ?_
            refine z_iconst (v := (-1)) S dX10_hallLine_101 (by decide) ?_
            refine z_icmp_ne (tgt := 119) S he dX10_hallLine_102 (by decide) (fun he => ?_) (fun he => ?_)
            · refine z_lv (ks := []) rfl ?_
              exact p_X10_hallLine_J119 S  he
            · refine z_aload_n S dX10_hallLine_105 rfl 0 rfl ?_
              refine z_getF (j := 110) S fo_RX10_7 1 rfl rfl ok_109 dX10_hallLine_106 ?_
              refine z_bipush (v := 12) S dX10_hallLine_109 (by decide) ?_
              refine z_iconst (v := 5) S dX10_hallLine_111 (by decide) ?_
              refine z_iload_n S dX10_hallLine_112 rfl 1 rfl ?_
              refine z_imul S dX10_hallLine_113 ?_
              refine z_iadd S dX10_hallLine_114 ?_
              refine z_iconst (v := 3) S dX10_hallLine_115 (by decide) ?_
              refine z_iadd S dX10_hallLine_116 ?_
              refine z_iconst (v := 0) S dX10_hallLine_117 (by decide) ?_
              refine z_iastb S ok_110 rfl he dX10_hallLine_118 (fun M14 he => ?_)
              refine z_lv (ks := []) rfl ?_
              exact p_X10_hallLine_J119 S  he
        · refine z_aload_n S dX10_hallLine_48 rfl 0 rfl ?_
          refine z_iconst (v := 1) S dX10_hallLine_49 (by decide) ?_
          refine z_bipush (v := 9) S dX10_hallLine_50 (by decide) ?_
          obtain ⟨⟨r15, M16⟩, h9, he⟩ := bnd he
          dsimp only at he
          refine z_cVI (As := [.int 1, .int 9]) S cv_RX10_114 (K_X10_figures  h9) ok_109 (by decide) (q := (RX10, TX10, 28)) rfl rfl ⟨rfl, rfl⟩ ⟨Nat.le_of_ble_eq_true rfl, Nat.le_of_ble_eq_true rfl⟩ ⟨Nat.le_refl _, Nat.le_refl _⟩ rfl rfl (Nat.le_of_ble_eq_true rfl) dX10_hallLine_52 ?_
          refine z_istore_n (lv' := [(0, .ref (X.2.2 109)), (2, .int r15)]) S [1, 0] dX10_hallLine_55 rfl (by decide) rfl ?_
          refine z_aload_n S dX10_hallLine_56 rfl 0 rfl ?_
          refine z_getI S fo_RX10_25 rfl ok_109 dX10_hallLine_57 ?_
          refine z_iconst (v := (-1)) S dX10_hallLine_60 (by decide) ?_
          refine z_icmp_ne (tgt := 71) S he dX10_hallLine_61 (by decide) (fun he => ?_) (fun he => ?_)
          · refine z_lv (ks := []) rfl ?_
            exact p_X10_hallLine_J71 S  he
          · refine z_aload_n S dX10_hallLine_64 rfl 0 rfl ?_
            refine z_getF (j := 110) S fo_RX10_7 1 rfl rfl ok_109 dX10_hallLine_65 ?_
            refine z_iconst (v := 5) S dX10_hallLine_68 (by decide) ?_
            refine z_iload_n S dX10_hallLine_69 rfl 1 rfl ?_
            refine z_iastb S ok_110 rfl he dX10_hallLine_70 (fun M17 he => ?_)
            refine z_lv (ks := []) rfl ?_
            exact p_X10_hallLine_J71 S  he
      · refine z_aload_n S dX10_hallLine_31 rfl 0 rfl ?_
        refine z_iload_n S dX10_hallLine_32 rfl 1 rfl ?_
        obtain ⟨M18, h9, he⟩ := bnd he
        refine z_cVV (As := [.int r1]) S cv_RX10_151 (K_X10_visitorLine  h9) ok_109 (by decide) (q := (RX10, TX10, 28)) rfl rfl ⟨rfl, rfl⟩ ⟨Nat.le_of_ble_eq_true rfl, Nat.le_of_ble_eq_true rfl⟩ ⟨Nat.le_refl _, Nat.le_refl _⟩ rfl rfl (Nat.le_of_ble_eq_true rfl) dX10_hallLine_33 ?_
        refine z_goto (tgt := 130) S dX10_hallLine_36 (by decide) ?_
        exact z_vret S (Option.some.inj he) dX10_hallLine_130
    · refine z_aload_n S dX10_hallLine_14 rfl 0 rfl ?_
      refine z_iload_n S dX10_hallLine_15 rfl 1 rfl ?_
      obtain ⟨M19, h9, he⟩ := bnd he
      refine z_cVV (As := [.int r1]) S cv_RX10_146 (K_X10_thingLine  h9) ok_109 (by decide) (q := (RX10, TX10, 28)) rfl rfl ⟨rfl, rfl⟩ ⟨Nat.le_of_ble_eq_true rfl, Nat.le_of_ble_eq_true rfl⟩ ⟨Nat.le_refl _, Nat.le_refl _⟩ rfl rfl (Nat.le_of_ble_eq_true rfl) dX10_hallLine_16 ?_
      refine z_goto (tgt := 130) S dX10_hallLine_19 (by decide) ?_
      exact z_vret S (Option.some.inj he) dX10_hallLine_130
set_option maxRecDepth 100000 in
set_option maxHeartbeats 4000000 in
theorem p_X10_read_J23_80 {X : Cx} {p : Program} {l : Launch} {e : Env} {s : State} {m : MethodId} {args : Array Value} {below : List Frame} {meth : Method} {c : Code} (S : SB X 1 p s m args meth c cX10_read 4 (some .int) RX10) {M : Mm} {N : Mm} {r : Int32} {v1 : Int32} {v2 : Int32} {v3 : Int32} {x : (Mm × Int32 × Int32) ⊕ (Mm × Int32)}  (he : f_X10_read_J23_80 M v1 v2 v3 = some x) (hc : ∀ b, x = .inl b → Z X 1 p l e rm_X10_read s m args below meth c 0 0 (MQ below (QI X 1 r N s.heap.size) args s 0 0 (AA X 1 s.heap.size)) 4 b.1 23 [(0, .ref (X.2.2 109)), (1, .int v1), (2, .int b.2.1), (3, .int b.2.2)] []) (hx : ∀ b, x = .inr b → Z X 1 p l e rm_X10_read s m args below meth c 0 0 (MQ below (QI X 1 r N s.heap.size) args s 0 0 (AA X 1 s.heap.size)) 4 b.1 144 [(3, .int b.2)] []) : Z X 1 p l e rm_X10_read s m args below meth c 0 0 (MQ below (QI X 1 r N s.heap.size) args s 0 0 (AA X 1 s.heap.size)) 4 M 80 [(0, .ref (X.2.2 109)), (1, .int v1), (2, .int v2), (3, .int v3)] [] := by
  unfold f_X10_read_J23_80 at he
  refine z_iinc (v := (v3 + 1)) (lv' := [(0, .ref (X.2.2 109)), (1, .int v1), (2, .int v2), (3, .int (v3 + 1))]) S [1, 2, 3, 0] 3 dX10_read_80 rfl (by rfl) (by decide) rfl ?_
  refine z_aload_n S dX10_read_83 rfl 0 rfl ?_
  obtain ⟨M4, h9, he⟩ := bnd he
  refine z_cVV (As := []) S cv_RX10_90 (K_X10_skip  h9) ok_109 (by decide) (q := (RX10, TX10, 28)) rfl rfl ⟨rfl, rfl⟩ ⟨Nat.le_of_ble_eq_true rfl, Nat.le_of_ble_eq_true rfl⟩ ⟨Nat.le_refl _, Nat.le_refl _⟩ rfl rfl (Nat.le_of_ble_eq_true rfl) dX10_read_84 ?_
  refine z_aload_n S dX10_read_87 rfl 0 rfl ?_
  refine z_getI S fo_RX10_25 rfl ok_109 dX10_read_88 ?_
  refine z_iconst (v := (-1)) S dX10_read_91 (by decide) ?_
  refine z_icmp_ne (tgt := 106) S he dX10_read_92 (by decide) (fun he => ?_) (fun he => ?_)
  · refine z_iconst (v := 0) S dX10_read_106 (by decide) ?_
    refine z_istore_n (lv' := [(0, .ref (X.2.2 109)), (1, .int v1), (2, .int 0), (3, .int (v3 + 1))]) S [1, 2, 0, 3] dX10_read_107 rfl (by decide) rfl ?_
    refine z_goto (tgt := 23) S dX10_read_108 (by decide) ?_
    refine z_lv (ks := [0, 1, 2, 3]) rfl ?_
    exact hc _ (Option.some.inj he).symm
  · refine z_aload_n S dX10_read_95 rfl 0 rfl ?_
    refine z_getI S fo_RX10_80 rfl ok_109 dX10_read_96 ?_
    refine z_aload_n S dX10_read_99 rfl 0 rfl ?_
    refine z_getI S fo_RX10_83 rfl ok_109 dX10_read_100 ?_
    refine z_icmp_ne (tgt := 111) S he dX10_read_103 (by decide) (fun he => ?_) (fun he => ?_)
    · refine z_aload_n S dX10_read_111 rfl 0 rfl ?_
      refine z_bipush (v := 59) S dX10_read_112 (by decide) ?_
      obtain ⟨⟨r5, M6⟩, h9, he⟩ := bnd he
      dsimp only at he
      refine z_cVI (As := [.int 59]) S cv_RX10_167 (K_X10_isSign  h9) ok_109 (by decide) (q := (RX10, TX10, 28)) rfl rfl ⟨rfl, rfl⟩ ⟨Nat.le_of_ble_eq_true rfl, Nat.le_of_ble_eq_true rfl⟩ ⟨Nat.le_refl _, Nat.le_refl _⟩ rfl rfl (Nat.le_of_ble_eq_true rfl) dX10_read_114 ?_
      refine z_ifb_eq (tgt := 133) S he dX10_read_117 (by decide) (fun he => ?_) (fun he => ?_)
      · refine z_aload_n S dX10_read_133 rfl 0 rfl ?_
        refine z_aload_n S dX10_read_134 rfl 0 rfl ?_
        refine z_getI S fo_RX10_80 rfl ok_109 dX10_read_135 ?_
        obtain ⟨M7, h9, he⟩ := bnd he
        refine z_cVV (As := [.int (gI M6 109 11)]) S cv_RX10_106 (K_X10_wrong  (Option.some.inj h9)) ok_109 (by decide) (q := (RX10, TX10, 28)) rfl rfl ⟨rfl, rfl⟩ ⟨Nat.le_of_ble_eq_true rfl, Nat.le_of_ble_eq_true rfl⟩ ⟨Nat.le_refl _, Nat.le_refl _⟩ rfl rfl (Nat.le_of_ble_eq_true rfl) dX10_read_138 ?_
        refine z_goto (tgt := 23) S dX10_read_141 (by decide) ?_
        refine z_lv (ks := [0, 1, 2, 3]) rfl ?_
        exact hc _ (Option.some.inj he).symm
      · refine z_aload_n S dX10_read_120 rfl 0 rfl ?_
        refine z_dup S rfl dX10_read_121 ?_
        refine z_getI S fo_RX10_80 rfl ok_109 dX10_read_122 ?_
        refine z_iconst (v := 1) S dX10_read_125 (by decide) ?_
        refine z_iadd S dX10_read_126 ?_
        refine z_putIb S fo_RX10_80p rfl ok_109 rfl rfl he dX10_read_127 (fun M8 he => ?_)
        refine z_goto (tgt := 23) S dX10_read_130 (by decide) ?_
        refine z_lv (ks := [0, 1, 2, 3]) rfl ?_
        exact hc _ (Option.some.inj he).symm
    · refine z_iconst (v := 0) S dX10_read_106 (by decide) ?_
      refine z_istore_n (lv' := [(0, .ref (X.2.2 109)), (1, .int v1), (2, .int 0), (3, .int (v3 + 1))]) S [1, 2, 0, 3] dX10_read_107 rfl (by decide) rfl ?_
      refine z_goto (tgt := 23) S dX10_read_108 (by decide) ?_
      refine z_lv (ks := [0, 1, 2, 3]) rfl ?_
      exact hc _ (Option.some.inj he).symm
set_option maxRecDepth 100000 in
set_option maxHeartbeats 4000000 in
theorem p_X10_read_J23_51 {X : Cx} {p : Program} {l : Launch} {e : Env} {s : State} {m : MethodId} {args : Array Value} {below : List Frame} {meth : Method} {c : Code} (S : SB X 1 p s m args meth c cX10_read 4 (some .int) RX10) {M : Mm} {N : Mm} {r : Int32} {v1 : Int32} {v2 : Int32} {v3 : Int32} {t0 : Int32} {t1 : Int32} {x : (Mm × Int32 × Int32) ⊕ (Mm × Int32)}  (he : f_X10_read_J23_51 M v1 v2 v3 t0 t1 = some x) (hc : ∀ b, x = .inl b → Z X 1 p l e rm_X10_read s m args below meth c 0 0 (MQ below (QI X 1 r N s.heap.size) args s 0 0 (AA X 1 s.heap.size)) 4 b.1 23 [(0, .ref (X.2.2 109)), (1, .int v1), (2, .int b.2.1), (3, .int b.2.2)] []) (hx : ∀ b, x = .inr b → Z X 1 p l e rm_X10_read s m args below meth c 0 0 (MQ below (QI X 1 r N s.heap.size) args s 0 0 (AA X 1 s.heap.size)) 4 b.1 144 [(3, .int b.2)] []) : Z X 1 p l e rm_X10_read s m args below meth c 0 0 (MQ below (QI X 1 r N s.heap.size) args s 0 0 (AA X 1 s.heap.size)) 4 M 51 [(0, .ref (X.2.2 109)), (1, .int v1), (2, .int v2), (3, .int v3)] [.int t0, .int t1] := by
  unfold f_X10_read_J23_51 at he
  refine z_icmp_ne (tgt := 65) S he dX10_read_51 (by decide) (fun he => ?_) (fun he => ?_)
  · refine z_iload_n S dX10_read_65 rfl 1 rfl ?_
    refine z_if_eq (tgt := 76) S he dX10_read_66 (by decide) (fun he => ?_) (fun he => ?_)
    · refine z_aload_n S dX10_read_76 rfl 0 rfl ?_
      obtain ⟨M3, h9, he⟩ := bnd he
      refine z_cVV (As := []) S cv_RX10_164 (K_X10_hallLine  h9) ok_109 (by decide) (q := (RX10, TX10, 28)) rfl rfl ⟨rfl, rfl⟩ ⟨Nat.le_of_ble_eq_true rfl, Nat.le_of_ble_eq_true rfl⟩ ⟨Nat.le_refl _, Nat.le_refl _⟩ rfl rfl (Nat.le_of_ble_eq_true rfl) dX10_read_77 ?_
      exact p_X10_read_J23_80 S  he hc hx
    · refine z_aload_n S dX10_read_69 rfl 0 rfl ?_
      obtain ⟨M9, h9, he⟩ := bnd he
      refine z_cVV (As := []) S cv_RX10_161 (K_X10_lawLine  h9) ok_109 (by decide) (q := (RX10, TX10, 28)) rfl rfl ⟨rfl, rfl⟩ ⟨Nat.le_of_ble_eq_true rfl, Nat.le_of_ble_eq_true rfl⟩ ⟨Nat.le_refl _, Nat.le_refl _⟩ rfl rfl (Nat.le_of_ble_eq_true rfl) dX10_read_70 ?_
      refine z_goto (tgt := 80) S dX10_read_73 (by decide) ?_
      exact p_X10_read_J23_80 S  he hc hx
  · refine z_aload_n S dX10_read_54 rfl 0 rfl ?_
    refine z_aload_n S dX10_read_55 rfl 0 rfl ?_
    refine z_getI S fo_RX10_80 rfl ok_109 dX10_read_56 ?_
    obtain ⟨M10, h9, he⟩ := bnd he
    refine z_cVV (As := [.int (gI M 109 11)]) S cv_RX10_106 (K_X10_wrong  (Option.some.inj h9)) ok_109 (by decide) (q := (RX10, TX10, 28)) rfl rfl ⟨rfl, rfl⟩ ⟨Nat.le_of_ble_eq_true rfl, Nat.le_of_ble_eq_true rfl⟩ ⟨Nat.le_refl _, Nat.le_refl _⟩ rfl rfl (Nat.le_of_ble_eq_true rfl) dX10_read_59 ?_
    refine z_goto (tgt := 80) S dX10_read_62 (by decide) ?_
    exact p_X10_read_J23_80 S  he hc hx
set_option maxRecDepth 100000 in
set_option maxHeartbeats 4000000 in
theorem p_X10_read_L23 {X : Cx} {p : Program} {l : Launch} {e : Env} {s : State} {m : MethodId} {args : Array Value} {below : List Frame} {meth : Method} {c : Code} (S : SB X 1 p s m args meth c cX10_read 4 (some .int) RX10) {M : Mm} {N : Mm} {r : Int32} {v1 : Int32} {v2 : Int32} {v3 : Int32} {x : (Mm × Int32 × Int32) ⊕ (Mm × Int32)}  (he : f_X10_read_L23 M v1 v2 v3 = some x) (hc : ∀ b, x = .inl b → Z X 1 p l e rm_X10_read s m args below meth c 0 0 (MQ below (QI X 1 r N s.heap.size) args s 0 0 (AA X 1 s.heap.size)) 4 b.1 23 [(0, .ref (X.2.2 109)), (1, .int v1), (2, .int b.2.1), (3, .int b.2.2)] []) (hx : ∀ b, x = .inr b → Z X 1 p l e rm_X10_read s m args below meth c 0 0 (MQ below (QI X 1 r N s.heap.size) args s 0 0 (AA X 1 s.heap.size)) 4 b.1 144 [(3, .int b.2)] []) : Z X 1 p l e rm_X10_read s m args below meth c 0 0 (MQ below (QI X 1 r N s.heap.size) args s 0 0 (AA X 1 s.heap.size)) 4 M 23 [(0, .ref (X.2.2 109)), (1, .int v1), (2, .int v2), (3, .int v3)] [] := by
  unfold f_X10_read_L23 at he
  refine z_iload_n S dX10_read_23 rfl 2 rfl ?_
  refine z_if_eq (tgt := 144) S he dX10_read_24 (by decide) (fun he => ?_) (fun he => ?_)
  · refine z_lv (ks := [3]) rfl ?_
    exact hx _ (Option.some.inj he).symm
  · refine z_aload_n S dX10_read_27 rfl 0 rfl ?_
    refine z_getI S fo_RX10_25 rfl ok_109 dX10_read_28 ?_
    refine z_iconst (v := (-1)) S dX10_read_31 (by decide) ?_
    refine z_icmp_ne (tgt := 144) S he dX10_read_32 (by decide) (fun he => ?_) (fun he => ?_)
    · refine z_lv (ks := [3]) rfl ?_
      exact hx _ (Option.some.inj he).symm
    · refine z_aload_n S dX10_read_35 rfl 0 rfl ?_
      obtain ⟨M2, h9, he⟩ := bnd he
      refine z_cVV (As := []) S cv_RX10_90 (K_X10_skip  h9) ok_109 (by decide) (q := (RX10, TX10, 28)) rfl rfl ⟨rfl, rfl⟩ ⟨Nat.le_of_ble_eq_true rfl, Nat.le_of_ble_eq_true rfl⟩ ⟨Nat.le_refl _, Nat.le_refl _⟩ rfl rfl (Nat.le_of_ble_eq_true rfl) dX10_read_36 ?_
      refine z_iload_n S dX10_read_39 rfl 3 rfl ?_
      refine z_iload_n S dX10_read_40 rfl 1 rfl ?_
      refine z_if_eq (tgt := 49) S he dX10_read_41 (by decide) (fun he => ?_) (fun he => ?_)
      · refine z_bipush (v := 14) S dX10_read_49 (by decide) ?_
        exact p_X10_read_J23_51 S  he hc hx
      · refine z_bipush (v := 12) S dX10_read_44 (by decide) ?_
        refine z_goto (tgt := 51) S dX10_read_46 (by decide) ?_
        exact p_X10_read_J23_51 S  he hc hx
set_option maxRecDepth 100000 in
set_option maxHeartbeats 4000000 in
theorem p_X10_read_J20 {X : Cx} {p : Program} {l : Launch} {e : Env} {s : State} {m : MethodId} {args : Array Value} {below : List Frame} {meth : Method} {c : Code} (S : SB X 1 p s m args meth c cX10_read 4 (some .int) RX10) {M : Mm} {N : Mm} {r : Int32} {v1 : Int32} {t0 : Int32}  (he : f_X10_read_J20 M v1 t0 = some (r, N)) : Z X 1 p l e rm_X10_read s m args below meth c 0 0 (MQ below (QI X 1 r N s.heap.size) args s 0 0 (AA X 1 s.heap.size)) 4 M 20 [(0, .ref (X.2.2 109)), (1, .int v1)] [.int t0] := by
  unfold f_X10_read_J20 at he
  refine z_istore_n (lv' := [(0, .ref (X.2.2 109)), (1, .int v1), (2, .int t0)]) S [1, 2, 0] dX10_read_20 rfl (by decide) rfl ?_
  refine z_iconst (v := 0) S dX10_read_21 (by decide) ?_
  refine z_istore_n (lv' := [(0, .ref (X.2.2 109)), (1, .int v1), (2, .int t0), (3, .int 0)]) S [1, 2, 3, 0] dX10_read_22 rfl (by decide) rfl ?_
  obtain ⟨e_11, hl, he⟩ := bnd he
  have hX : Z X 1 p l e rm_X10_read s m args below meth c 0 0 (MQ below (QI X 1 r N s.heap.size) args s 0 0 (AA X 1 s.heap.size)) 4 e_11.1 144 [(3, .int e_11.2)] [] := by
    refine z_iload_n S dX10_read_144 rfl 0 rfl ?_
    exact z_iret S (Prod.mk.inj (Option.some.inj he)) dX10_read_145
  have hZ9 := loopZ (f := (fun a_11 => f_X10_read_L23 a_11.1 v1 a_11.2.1 a_11.2.2)) (Zh := (fun a_11 => Z X 1 p l e rm_X10_read s m args below meth c 0 0 (MQ below (QI X 1 r N s.heap.size) args s 0 0 (AA X 1 s.heap.size)) 4 a_11.1 23 [(0, .ref (X.2.2 109)), (1, .int v1), (2, .int a_11.2.1), (3, .int a_11.2.2)] [])) (fun a_11 x hb hc hr => p_X10_read_L23 S  hb hc (fun b hxe => by rw [hr b hxe]; exact hX)) FU (M, t0, 0) hl
  exact hZ9
set_option maxRecDepth 100000 in
set_option maxHeartbeats 4000000 in
theorem K_X10_read {X : Cx} {l : Launch} {M : Mm} {a1 : Int32} {r : Int32} {N : Mm}  (he : f_X10_read M a1 = some (r, N)) : KI X 1 l yX10_read (wz yX10_read cX10_read 4 (some .int)) rm_X10_read [.ref (X.2.2 109), .int a1] M r N := by
  intro sz
  refine K_of (Qc := (fun sz => QI X 1 r N sz)) (own := RX10) (lv0 := [(0, .ref (X.2.2 109)), (1, .int a1)]) (by decide +kernel) rfl (Nat.le_of_ble_eq_true rfl) rfl (fun p e s m args below meth c S => ?_) sz
  · unfold f_X10_read at he
    refine z_aload_n S dX10_read_0 rfl 0 rfl ?_
    obtain ⟨M1, h9, he⟩ := bnd he
    refine z_cVV (As := []) S cv_RX10_90 (K_X10_skip  h9) ok_109 (by decide) (q := (RX10, TX10, 28)) rfl rfl ⟨rfl, rfl⟩ ⟨Nat.le_of_ble_eq_true rfl, Nat.le_of_ble_eq_true rfl⟩ ⟨Nat.le_refl _, Nat.le_refl _⟩ rfl rfl (Nat.le_of_ble_eq_true rfl) dX10_read_1 ?_
    refine z_aload_n S dX10_read_4 rfl 0 rfl ?_
    refine z_getI S fo_RX10_80 rfl ok_109 dX10_read_5 ?_
    refine z_aload_n S dX10_read_8 rfl 0 rfl ?_
    refine z_getI S fo_RX10_83 rfl ok_109 dX10_read_9 ?_
    refine z_icmp_ge (tgt := 19) S he dX10_read_12 (by decide) (fun he => ?_) (fun he => ?_)
    · refine z_iconst (v := 0) S dX10_read_19 (by decide) ?_
      exact p_X10_read_J20 S  he
    · refine z_iconst (v := 1) S dX10_read_15 (by decide) ?_
      refine z_goto (tgt := 20) S dX10_read_16 (by decide) ?_
      exact p_X10_read_J20 S  he
set_option maxRecDepth 100000 in
set_option maxHeartbeats 4000000 in
theorem K_X10_greater {X : Cx} {l : Launch} {M : Mm} {a0 : Int32} {a1 : Int32} {r : Int32}  (he : f_X10_greater M a0 a1 = r) : KI X 1 l yX10_greater (wz yX10_greater cX10_greater 2 (some .int)) rm_X10_greater [.int a0, .int a1] M r M := by
  intro sz
  refine K_of (Qc := (fun sz => QI X 1 r M sz)) (own := RX10) (lv0 := [(0, .int a0), (1, .int a1)]) (by decide +kernel) rfl (Nat.le_of_ble_eq_true rfl) rfl (fun p e s m args below meth c S => ?_) sz
  · unfold f_X10_greater at he
    refine z_iload_n S dX10_greater_0 rfl 0 rfl ?_
    refine z_iload_n S dX10_greater_1 rfl 1 rfl ?_
    refine z_icmp_le (tgt := 9) S he dX10_greater_2 (by decide) (fun he => ?_) (fun he => ?_)
    · refine z_iload_n S dX10_greater_9 rfl 1 rfl ?_
      exact z_iret S (⟨he, rfl⟩) dX10_greater_10
    · refine z_iload_n S dX10_greater_5 rfl 0 rfl ?_
      refine z_goto (tgt := 10) S dX10_greater_6 (by decide) ?_
      exact z_iret S (⟨he, rfl⟩) dX10_greater_10
