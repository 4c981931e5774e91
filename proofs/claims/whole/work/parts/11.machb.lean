set_option maxRecDepth 100000 in
set_option maxHeartbeats 4000000 in
theorem p_X0_bestEnd_J12_44 {X : Cx} {p : Program} {l : Launch} {e : Env} {s : State} {m : MethodId} {args : Array Value} {below : List Frame} {meth : Method} {c : Code} (S : SB X 0 p s m args meth c cX0_bestEnd 6 (some .int) RX0) {M : Mm} {N : Mm} {r : Int32} {v1 : Int32} {t0 : Int64} {t1 : Int32} {x : (Mm × Int32) ⊕ Mm}  (he : f_X0_bestEnd_J12_44 M v1 t0 t1 = some x) (hc : ∀ b, x = .inl b → Z X 0 p l e rm_X0_bestEnd s m args below meth c 0 0 (MQ below (QI X 0 r N s.heap.size) args s 0 0 (AA X 0 s.heap.size)) 6 b.1 12 [(0, .ref (X.2.2 90)), (1, .int b.2)] []) (hx : ∀ b, x = .inr b → Z X 0 p l e rm_X0_bestEnd s m args below meth c 0 0 (MQ below (QI X 0 r N s.heap.size) args s 0 0 (AA X 0 s.heap.size)) 6 b 53 [(0, .ref (X.2.2 90))] []) : Z X 0 p l e rm_X0_bestEnd s m args below meth c 0 0 (MQ below (QI X 0 r N s.heap.size) args s 0 0 (AA X 0 s.heap.size)) 6 M 44 [(0, .ref (X.2.2 90)), (1, .int v1)] [.long t0, .int t1, .ref (X.2.2 94)] := by
  unfold f_X0_bestEnd_J12_44 at he
  obtain ⟨M3, h9, he⟩ := bnd he
  refine z_cNV (As := [.ref (X.2.2 94), .int t1, .long t0]) S cn_RX0_83 (K_X9_put_ ok_94 h9) ⟨rfl, rfl⟩ ⟨Nat.le_of_ble_eq_true rfl, Nat.le_of_ble_eq_true rfl⟩ ⟨Nat.le_refl _, Nat.le_refl _⟩ rfl rfl (Nat.le_of_ble_eq_true rfl) dX0_bestEnd_44 ?_
  refine z_iinc (v := (v1 + 1)) (lv' := [(0, .ref (X.2.2 90)), (1, .int (v1 + 1))]) S [1, 0] 1 dX0_bestEnd_47 rfl (by rfl) (by decide) rfl ?_
  refine z_goto (tgt := 12) S dX0_bestEnd_50 (by decide) ?_
  refine z_lv (ks := [0, 1]) rfl ?_
  exact hc _ (Option.some.inj he).symm
set_option maxRecDepth 100000 in
set_option maxHeartbeats 4000000 in
theorem p_X0_bestEnd_L12 {X : Cx} {p : Program} {l : Launch} {e : Env} {s : State} {m : MethodId} {args : Array Value} {below : List Frame} {meth : Method} {c : Code} (S : SB X 0 p s m args meth c cX0_bestEnd 6 (some .int) RX0) {M : Mm} {N : Mm} {r : Int32} {v1 : Int32} {x : (Mm × Int32) ⊕ Mm}  (he : f_X0_bestEnd_L12 M v1 = some x) (hc : ∀ b, x = .inl b → Z X 0 p l e rm_X0_bestEnd s m args below meth c 0 0 (MQ below (QI X 0 r N s.heap.size) args s 0 0 (AA X 0 s.heap.size)) 6 b.1 12 [(0, .ref (X.2.2 90)), (1, .int b.2)] []) (hx : ∀ b, x = .inr b → Z X 0 p l e rm_X0_bestEnd s m args below meth c 0 0 (MQ below (QI X 0 r N s.heap.size) args s 0 0 (AA X 0 s.heap.size)) 6 b 53 [(0, .ref (X.2.2 90))] []) : Z X 0 p l e rm_X0_bestEnd s m args below meth c 0 0 (MQ below (QI X 0 r N s.heap.size) args s 0 0 (AA X 0 s.heap.size)) 6 M 12 [(0, .ref (X.2.2 90)), (1, .int v1)] [] := by
  unfold f_X0_bestEnd_L12 at he
  refine z_iload_n S dX0_bestEnd_12 rfl 1 rfl ?_
  refine z_aload_n S dX0_bestEnd_13 rfl 0 rfl ?_
  refine z_getI S fo_RX0_43 rfl ok_90 dX0_bestEnd_14 ?_
  refine z_icmp_ge (tgt := 53) S he dX0_bestEnd_17 (by decide) (fun he => ?_) (fun he => ?_)
  · refine z_lv (ks := [0]) rfl ?_
    exact hx _ (Option.some.inj he).symm
  · refine z_aload_n S dX0_bestEnd_20 rfl 0 rfl ?_
    refine z_getF (j := 94) S fo_RX0_24 4 rfl rfl ok_90 dX0_bestEnd_21 ?_
    refine z_iload_n S dX0_bestEnd_24 rfl 1 rfl ?_
    refine z_aload_n S dX0_bestEnd_25 rfl 0 rfl ?_
    refine z_getF (j := 92) S fo_RX0_17 2 rfl rfl ok_90 dX0_bestEnd_26 ?_
    refine z_iload_n S dX0_bestEnd_29 rfl 1 rfl ?_
    obtain ⟨r2, h9, he⟩ := bnd he
    refine z_cNI (As := [.ref (X.2.2 92), .int v1]) S cn_RX0_97 (K_X9_at ok_92 h9) ⟨rfl, rfl⟩ ⟨Nat.le_of_ble_eq_true rfl, Nat.le_of_ble_eq_true rfl⟩ ⟨Nat.le_refl _, Nat.le_refl _⟩ rfl rfl (Nat.le_of_ble_eq_true rfl) dX0_bestEnd_30 ?_
    refine z_iconst (v := (-1)) S dX0_bestEnd_33 (by decide) ?_
    refine z_icmp_ne (tgt := 41) S he dX0_bestEnd_34 (by decide) (fun he => ?_) (fun he => ?_)
    · refine z_ldc2 (v := (-2305843009213693952)) S kc_RX0_92 dX0_bestEnd_41 ?_
      exact p_X0_bestEnd_J12_44 S  he hc hx
    · refine z_lconst (v := 0) S dX0_bestEnd_37 (by decide) ?_
      refine z_goto (tgt := 44) S dX0_bestEnd_38 (by decide) ?_
      exact p_X0_bestEnd_J12_44 S  he hc hx
set_option maxRecDepth 100000 in
set_option maxHeartbeats 4000000 in
theorem p_X0_bestEnd_L57 {X : Cx} {p : Program} {l : Launch} {e : Env} {s : State} {m : MethodId} {args : Array Value} {below : List Frame} {meth : Method} {c : Code} (S : SB X 0 p s m args meth c cX0_bestEnd 6 (some .int) RX0) {M : Mm} {N : Mm} {r : Int32} {v1 : Int32} {v2 : Int32} {x : (Mm × Int32 × Int32) ⊕ Mm}  (he : f_X0_bestEnd_L57 M v1 v2 = some x) (hc : ∀ b, x = .inl b → Z X 0 p l e rm_X0_bestEnd s m args below meth c 0 0 (MQ below (QI X 0 r N s.heap.size) args s 0 0 (AA X 0 s.heap.size)) 6 b.1 57 [(0, .ref (X.2.2 90)), (1, .int b.2.1), (2, .int b.2.2)] []) (hx : ∀ b, x = .inr b → Z X 0 p l e rm_X0_bestEnd s m args below meth c 0 0 (MQ below (QI X 0 r N s.heap.size) args s 0 0 (AA X 0 s.heap.size)) 6 b 85 [(0, .ref (X.2.2 90))] []) : Z X 0 p l e rm_X0_bestEnd s m args below meth c 0 0 (MQ below (QI X 0 r N s.heap.size) args s 0 0 (AA X 0 s.heap.size)) 6 M 57 [(0, .ref (X.2.2 90)), (1, .int v1), (2, .int v2)] [] := by
  unfold f_X0_bestEnd_L57 at he
  refine z_iload_n S dX0_bestEnd_57 rfl 2 rfl ?_
  refine z_aload_n S dX0_bestEnd_58 rfl 0 rfl ?_
  refine z_getI S fo_RX0_43 rfl ok_90 dX0_bestEnd_59 ?_
  refine z_icmp_gt (tgt := 85) S he dX0_bestEnd_62 (by decide) (fun he => ?_) (fun he => ?_)
  · refine z_lv (ks := [0]) rfl ?_
    exact hx _ (Option.some.inj he).symm
  · refine z_iload_n S dX0_bestEnd_65 rfl 1 rfl ?_
    refine z_if_eq (tgt := 85) S he dX0_bestEnd_66 (by decide) (fun he => ?_) (fun he => ?_)
    · refine z_lv (ks := [0]) rfl ?_
      exact hx _ (Option.some.inj he).symm
    · refine z_aload_n S dX0_bestEnd_69 rfl 0 rfl ?_
      obtain ⟨⟨r5, M6⟩, h9, he⟩ := bnd he
      dsimp only at he
      refine z_cVI (As := []) S cv_RX0_100 (K_X0_reachThings  h9) ok_90 (by decide) (q := (RX0, TX0, 8)) rfl rfl ⟨rfl, rfl⟩ ⟨Nat.le_of_ble_eq_true rfl, Nat.le_of_ble_eq_true rfl⟩ ⟨Nat.le_refl _, Nat.le_refl _⟩ rfl rfl (Nat.le_of_ble_eq_true rfl) dX0_bestEnd_70 ?_
      refine z_aload_n S dX0_bestEnd_73 rfl 0 rfl ?_
      obtain ⟨⟨r7, M8⟩, h9, he⟩ := bnd he
      dsimp only at he
      refine z_cVI (As := []) S cv_RX0_104 (K_X0_reachVisitors  h9) ok_90 (by decide) (q := (RX0, TX0, 8)) rfl rfl ⟨rfl, rfl⟩ ⟨Nat.le_of_ble_eq_true rfl, Nat.le_of_ble_eq_true rfl⟩ ⟨Nat.le_refl _, Nat.le_refl _⟩ rfl rfl (Nat.le_of_ble_eq_true rfl) dX0_bestEnd_74 ?_
      refine z_ior S dX0_bestEnd_77 ?_
      obtain ⟨x9, ex9, he⟩ := bnd he
      rw [Option.some.inj ex9]
      refine z_istore_n (lv' := [(0, .ref (X.2.2 90)), (1, .int x9), (2, .int v2)]) S [1, 0, 2] dX0_bestEnd_78 rfl (by decide) rfl ?_
      refine z_iinc (v := (v2 + 1)) (lv' := [(0, .ref (X.2.2 90)), (1, .int x9), (2, .int (v2 + 1))]) S [1, 2, 0] 2 dX0_bestEnd_79 rfl (by rfl) (by decide) rfl ?_
      refine z_goto (tgt := 57) S dX0_bestEnd_82 (by decide) ?_
      refine z_lv (ks := [0, 1, 2]) rfl ?_
      exact hc _ (Option.some.inj he).symm
set_option maxRecDepth 100000 in
set_option maxHeartbeats 4000000 in
theorem p_X0_bestEnd_L89 {X : Cx} {p : Program} {l : Launch} {e : Env} {s : State} {m : MethodId} {args : Array Value} {below : List Frame} {meth : Method} {c : Code} (S : SB X 0 p s m args meth c cX0_bestEnd 6 (some .int) RX0) {M : Mm} {N : Mm} {r : Int32} {v2 : Int32} {v3 : Int32} {x : (Int32 × Int32) ⊕ Int32}  (he : f_X0_bestEnd_L89 M v2 v3 = some x) (hc : ∀ b, x = .inl b → Z X 0 p l e rm_X0_bestEnd s m args below meth c 0 0 (MQ below (QI X 0 r N s.heap.size) args s 0 0 (AA X 0 s.heap.size)) 6 M 89 [(0, .ref (X.2.2 90)), (2, .int b.1), (3, .int b.2)] []) (hx : ∀ b, x = .inr b → Z X 0 p l e rm_X0_bestEnd s m args below meth c 0 0 (MQ below (QI X 0 r N s.heap.size) args s 0 0 (AA X 0 s.heap.size)) 6 M 152 [(2, .int b)] []) : Z X 0 p l e rm_X0_bestEnd s m args below meth c 0 0 (MQ below (QI X 0 r N s.heap.size) args s 0 0 (AA X 0 s.heap.size)) 6 M 89 [(0, .ref (X.2.2 90)), (2, .int v2), (3, .int v3)] [] := by
  unfold f_X0_bestEnd_L89 at he
  refine z_iload_n S dX0_bestEnd_89 rfl 2 rfl ?_
  refine z_aload_n S dX0_bestEnd_90 rfl 0 rfl ?_
  refine z_getI S fo_RX0_39 rfl ok_90 dX0_bestEnd_91 ?_
  refine z_icmp_ge (tgt := 152) S he dX0_bestEnd_94 (by decide) (fun he => ?_) (fun he => ?_)
  · refine z_lv (ks := [1]) rfl ?_
    exact hx _ (Option.some.inj he).symm
  · refine z_aload_n S dX0_bestEnd_97 rfl 0 rfl ?_
    refine z_getF (j := 95) S fo_RX0_27 5 rfl rfl ok_90 dX0_bestEnd_98 ?_
    refine z_iload_n S dX0_bestEnd_101 rfl 2 rfl ?_
    obtain ⟨r11, h9, he⟩ := bnd he
    refine z_cNL (As := [.ref (X.2.2 95), .int v3]) S cn_RX0_88 (K_X9_at_ ok_95 h9) ⟨rfl, rfl⟩ ⟨Nat.le_of_ble_eq_true rfl, Nat.le_of_ble_eq_true rfl⟩ ⟨Nat.le_refl _, Nat.le_refl _⟩ rfl rfl (Nat.le_of_ble_eq_true rfl) dX0_bestEnd_102 ?_
    refine z_lstore (lv' := [(0, .ref (X.2.2 90)), (2, .int v2), (3, .int v3), (4, .long r11)]) S [1, 2, 3, 0] dX0_bestEnd_105 (by decide) rfl ?_
    refine z_aload_n S dX0_bestEnd_107 rfl 0 rfl ?_
    refine z_getF (j := 93) S fo_RX0_21 3 rfl rfl ok_90 dX0_bestEnd_108 ?_
    refine z_iload_n S dX0_bestEnd_111 rfl 2 rfl ?_
    obtain ⟨r12, h9, he⟩ := bnd he
    refine z_cNI (As := [.ref (X.2.2 93), .int v3]) S cn_RX0_97 (K_X9_at ok_93 h9) ⟨rfl, rfl⟩ ⟨Nat.le_of_ble_eq_true rfl, Nat.le_of_ble_eq_true rfl⟩ ⟨Nat.le_refl _, Nat.le_refl _⟩ rfl rfl (Nat.le_of_ble_eq_true rfl) dX0_bestEnd_112 ?_
    refine z_if_le (tgt := 146) S he dX0_bestEnd_115 (by decide) (fun he => ?_) (fun he => ?_)
    · refine z_iinc (v := (v3 + 1)) (lv' := [(0, .ref (X.2.2 90)), (2, .int v2), (3, .int (v3 + 1)), (4, .long r11)]) S [1, 2, 0, 3] 2 dX0_bestEnd_146 rfl (by rfl) (by decide) rfl ?_
      refine z_goto (tgt := 89) S dX0_bestEnd_149 (by decide) ?_
      refine z_lv (ks := [0, 1, 2]) rfl ?_
      exact hc _ (Option.some.inj he).symm
    · refine z_lload S dX0_bestEnd_118 3 rfl ?_
      refine z_lconst (v := 0) S dX0_bestEnd_120 (by decide) ?_
      refine z_lcmp S dX0_bestEnd_121 ?_
      refine z_if_le (tgt := 146) S he dX0_bestEnd_122 (by decide) (fun he => ?_) (fun he => ?_)
      · refine z_iinc (v := (v3 + 1)) (lv' := [(0, .ref (X.2.2 90)), (2, .int v2), (3, .int (v3 + 1)), (4, .long r11)]) S [1, 2, 0, 3] 2 dX0_bestEnd_146 rfl (by rfl) (by decide) rfl ?_
        refine z_goto (tgt := 89) S dX0_bestEnd_149 (by decide) ?_
        refine z_lv (ks := [0, 1, 2]) rfl ?_
        exact hc _ (Option.some.inj he).symm
      · refine z_iload_n S dX0_bestEnd_125 rfl 1 rfl ?_
        refine z_iconst (v := (-1)) S dX0_bestEnd_126 (by decide) ?_
        refine z_icmp_eq (tgt := 144) S he dX0_bestEnd_127 (by decide) (fun he => ?_) (fun he => ?_)
        · refine z_iload_n S dX0_bestEnd_144 rfl 2 rfl ?_
          refine z_istore_n (lv' := [(0, .ref (X.2.2 90)), (2, .int v3), (3, .int v3)]) S [1, 0, 2] dX0_bestEnd_145 rfl (by decide) rfl ?_
          refine z_iinc (v := (v3 + 1)) (lv' := [(0, .ref (X.2.2 90)), (2, .int v3), (3, .int (v3 + 1))]) S [1, 2, 0] 2 dX0_bestEnd_146 rfl (by rfl) (by decide) rfl ?_
          refine z_goto (tgt := 89) S dX0_bestEnd_149 (by decide) ?_
          refine z_lv (ks := [0, 1, 2]) rfl ?_
          exact hc _ (Option.some.inj he).symm
        · refine z_lload S dX0_bestEnd_130 3 rfl ?_
          refine z_aload_n S dX0_bestEnd_132 rfl 0 rfl ?_
          refine z_getF (j := 95) S fo_RX0_27 5 rfl rfl ok_90 dX0_bestEnd_133 ?_
          refine z_iload_n S dX0_bestEnd_136 rfl 1 rfl ?_
          obtain ⟨r13, h9, he⟩ := bnd he
          refine z_cNL (As := [.ref (X.2.2 95), .int v2]) S cn_RX0_88 (K_X9_at_ ok_95 h9) ⟨rfl, rfl⟩ ⟨Nat.le_of_ble_eq_true rfl, Nat.le_of_ble_eq_true rfl⟩ ⟨Nat.le_refl _, Nat.le_refl _⟩ rfl rfl (Nat.le_of_ble_eq_true rfl) dX0_bestEnd_137 ?_
          refine z_lcmp S dX0_bestEnd_140 ?_
          refine z_if_le (tgt := 146) S he dX0_bestEnd_141 (by decide) (fun he => ?_) (fun he => ?_)
          · refine z_iinc (v := (v3 + 1)) (lv' := [(0, .ref (X.2.2 90)), (2, .int v2), (3, .int (v3 + 1)), (4, .long r11)]) S [1, 2, 0, 3] 2 dX0_bestEnd_146 rfl (by rfl) (by decide) rfl ?_
            refine z_goto (tgt := 89) S dX0_bestEnd_149 (by decide) ?_
            refine z_lv (ks := [0, 1, 2]) rfl ?_
            exact hc _ (Option.some.inj he).symm
          · refine z_iload_n S dX0_bestEnd_144 rfl 2 rfl ?_
            refine z_istore_n (lv' := [(0, .ref (X.2.2 90)), (2, .int v3), (3, .int v3)]) S [1, 0, 2] dX0_bestEnd_145 rfl (by decide) rfl ?_
            refine z_iinc (v := (v3 + 1)) (lv' := [(0, .ref (X.2.2 90)), (2, .int v3), (3, .int (v3 + 1))]) S [1, 2, 0] 2 dX0_bestEnd_146 rfl (by rfl) (by decide) rfl ?_
            refine z_goto (tgt := 89) S dX0_bestEnd_149 (by decide) ?_
            refine z_lv (ks := [0, 1, 2]) rfl ?_
            exact hc _ (Option.some.inj he).symm
set_option maxRecDepth 100000 in
set_option maxHeartbeats 4000000 in
theorem K_X0_bestEnd {X : Cx} {l : Launch} {M : Mm} {r : Int32} {N : Mm}  (he : f_X0_bestEnd M  = some (r, N)) : KI X 0 l yX0_bestEnd (wz yX0_bestEnd cX0_bestEnd 6 (some .int)) rm_X0_bestEnd [.ref (X.2.2 90)] M r N := by
  intro sz
  refine K_of (Qc := (fun sz => QI X 0 r N sz)) (own := RX0) (lv0 := [(0, .ref (X.2.2 90))]) (by decide +kernel) rfl (Nat.le_of_ble_eq_true rfl) rfl (fun p e s m args below meth c S => ?_) sz
  · unfold f_X0_bestEnd at he
    refine z_aload_n S dX0_bestEnd_0 rfl 0 rfl ?_
    refine z_getF (j := 95) S fo_RX0_27 5 rfl rfl ok_90 dX0_bestEnd_1 ?_
    refine z_ldc2 (v := (-2305843009213693952)) S kc_RX0_92 dX0_bestEnd_4 ?_
    obtain ⟨M1, h9, he⟩ := bnd he
    refine z_cSV (As := [.ref (X.2.2 95), .long (-2305843009213693952)]) S cs_RX0_94 (K_J7_fill_d0a16 ok_95 h9) ⟨rfl, rfl⟩ ⟨Nat.le_of_ble_eq_true rfl, Nat.le_of_ble_eq_true rfl⟩ ⟨Nat.le_refl _, Nat.le_refl _⟩ rfl rfl (Nat.le_of_ble_eq_true rfl) dX0_bestEnd_7 ?_
    refine z_iconst (v := 0) S dX0_bestEnd_10 (by decide) ?_
    refine z_istore_n (lv' := [(0, .ref (X.2.2 90)), (1, .int 0)]) S [1, 0] dX0_bestEnd_11 rfl (by decide) rfl ?_
    obtain ⟨e_4, hl, he⟩ := bnd he
    have hX : Z X 0 p l e rm_X0_bestEnd s m args below meth c 0 0 (MQ below (QI X 0 r N s.heap.size) args s 0 0 (AA X 0 s.heap.size)) 6 e_4 53 [(0, .ref (X.2.2 90))] [] := by
      refine z_iconst (v := 1) S dX0_bestEnd_53 (by decide) ?_
      refine z_istore_n (lv' := [(0, .ref (X.2.2 90)), (1, .int 1)]) S [1, 0] dX0_bestEnd_54 rfl (by decide) rfl ?_
      refine z_iconst (v := 0) S dX0_bestEnd_55 (by decide) ?_
      refine z_istore_n (lv' := [(0, .ref (X.2.2 90)), (1, .int 1), (2, .int 0)]) S [1, 2, 0] dX0_bestEnd_56 rfl (by decide) rfl ?_
      obtain ⟨e_10, hl, he⟩ := bnd he
      have hX : Z X 0 p l e rm_X0_bestEnd s m args below meth c 0 0 (MQ below (QI X 0 r N s.heap.size) args s 0 0 (AA X 0 s.heap.size)) 6 e_10 85 [(0, .ref (X.2.2 90))] [] := by
        refine z_iconst (v := (-1)) S dX0_bestEnd_85 (by decide) ?_
        refine z_istore_n (lv' := [(0, .ref (X.2.2 90)), (2, .int (-1))]) S [1, 0] dX0_bestEnd_86 rfl (by decide) rfl ?_
        refine z_iconst (v := 0) S dX0_bestEnd_87 (by decide) ?_
        refine z_istore_n (lv' := [(0, .ref (X.2.2 90)), (2, .int (-1)), (3, .int 0)]) S [1, 2, 0] dX0_bestEnd_88 rfl (by decide) rfl ?_
        obtain ⟨e_14, hl, he⟩ := bnd he
        have hX : Z X 0 p l e rm_X0_bestEnd s m args below meth c 0 0 (MQ below (QI X 0 r N s.heap.size) args s 0 0 (AA X 0 s.heap.size)) 6 e_10 152 [(2, .int e_14)] [] := by
          refine z_iload_n S dX0_bestEnd_152 rfl 0 rfl ?_
          exact z_iret S (Prod.mk.inj (Option.some.inj he)) dX0_bestEnd_153
        exact loopZ (Zh := (fun a_14 => Z X 0 p l e rm_X0_bestEnd s m args below meth c 0 0 (MQ below (QI X 0 r N s.heap.size) args s 0 0 (AA X 0 s.heap.size)) 6 e_10 89 [(0, .ref (X.2.2 90)), (2, .int a_14.1), (3, .int a_14.2)] [])) (fun a_14 x hb hc hr => p_X0_bestEnd_L89 S  hb hc (fun b hxe => by rw [hr b hxe]; exact hX)) FU _ hl
      exact loopZ (Zh := (fun a_10 => Z X 0 p l e rm_X0_bestEnd s m args below meth c 0 0 (MQ below (QI X 0 r N s.heap.size) args s 0 0 (AA X 0 s.heap.size)) 6 a_10.1 57 [(0, .ref (X.2.2 90)), (1, .int a_10.2.1), (2, .int a_10.2.2)] [])) (fun a_10 x hb hc hr => p_X0_bestEnd_L57 S  hb hc (fun b hxe => by rw [hr b hxe]; exact hX)) FU _ hl
    exact loopZ (Zh := (fun a_4 => Z X 0 p l e rm_X0_bestEnd s m args below meth c 0 0 (MQ below (QI X 0 r N s.heap.size) args s 0 0 (AA X 0 s.heap.size)) 6 a_4.1 12 [(0, .ref (X.2.2 90)), (1, .int a_4.2)] [])) (fun a_4 x hb hc hr => p_X0_bestEnd_L12 S  hb hc (fun b hxe => by rw [hr b hxe]; exact hX)) FU _ hl
set_option maxRecDepth 100000 in
set_option maxHeartbeats 4000000 in
theorem p_X0_exchange_L22 {X : Cx} {p : Program} {l : Launch} {e : Env} {s : State} {m : MethodId} {args : Array Value} {below : List Frame} {meth : Method} {c : Code} (S : SB X 0 p s m args meth c cX0_exchange 6 none RX0) {M : Mm} {N : Mm} {v2 : Int32} {v3 : Int32} {x : (Mm × Int32 × Int32) ⊕ Mm}  (he : f_X0_exchange_L22 M v2 v3 = some x) (hc : ∀ b, x = .inl b → Z X 0 p l e rm_X0_exchange s m args below meth c 0 0 (MQ below (QV X 0 N s.heap.size) args s 0 0 (AA X 0 s.heap.size)) 6 b.1 22 [(0, .ref (X.2.2 90)), (2, .int b.2.1), (3, .int b.2.2)] []) (hx : ∀ b, x = .inr b → Z X 0 p l e rm_X0_exchange s m args below meth c 0 0 (MQ below (QV X 0 N s.heap.size) args s 0 0 (AA X 0 s.heap.size)) 6 b 73 [] []) : Z X 0 p l e rm_X0_exchange s m args below meth c 0 0 (MQ below (QV X 0 N s.heap.size) args s 0 0 (AA X 0 s.heap.size)) 6 M 22 [(0, .ref (X.2.2 90)), (2, .int v2), (3, .int v3)] [] := by
  unfold f_X0_exchange_L22 at he
  refine z_iload_n S dX0_exchange_22 rfl 2 rfl ?_
  refine z_bipush (v := 10) S dX0_exchange_23 (by decide) ?_
  refine z_icmp_ge (tgt := 73) S he dX0_exchange_25 (by decide) (fun he => ?_) (fun he => ?_)
  · refine z_lv (ks := []) rfl ?_
    exact hx _ (Option.some.inj he).symm
  · refine z_iload_n S dX0_exchange_28 rfl 1 rfl ?_
    refine z_iconst (v := (-1)) S dX0_exchange_29 (by decide) ?_
    refine z_icmp_eq (tgt := 73) S he dX0_exchange_30 (by decide) (fun he => ?_) (fun he => ?_)
    · refine z_lv (ks := []) rfl ?_
      exact hx _ (Option.some.inj he).symm
    · refine z_aload_n S dX0_exchange_33 rfl 0 rfl ?_
      refine z_getF (j := 96) S fo_RX0_30 6 rfl rfl ok_90 dX0_exchange_34 ?_
      refine z_iload_n S dX0_exchange_37 rfl 1 rfl ?_
      obtain ⟨r3, h9, he⟩ := bnd he
      refine z_cNI (As := [.ref (X.2.2 96), .int v2]) S cn_RX0_97 (K_X9_at ok_96 h9) ⟨rfl, rfl⟩ ⟨Nat.le_of_ble_eq_true rfl, Nat.le_of_ble_eq_true rfl⟩ ⟨Nat.le_refl _, Nat.le_refl _⟩ rfl rfl (Nat.le_of_ble_eq_true rfl) dX0_exchange_38 ?_
      refine z_istore (lv' := [(0, .ref (X.2.2 90)), (2, .int v2), (3, .int v3), (4, .int r3)]) S [1, 2, 3, 0] dX0_exchange_41 (by decide) rfl ?_
      refine z_aload_n S dX0_exchange_43 rfl 0 rfl ?_
      refine z_getF (j := 92) S fo_RX0_17 2 rfl rfl ok_90 dX0_exchange_44 ?_
      refine z_iload S dX0_exchange_47 3 rfl ?_
      obtain ⟨r4, h9, he⟩ := bnd he
      refine z_cNI (As := [.ref (X.2.2 92), .int r3]) S cn_RX0_97 (K_X9_at ok_92 h9) ⟨rfl, rfl⟩ ⟨Nat.le_of_ble_eq_true rfl, Nat.le_of_ble_eq_true rfl⟩ ⟨Nat.le_refl _, Nat.le_refl _⟩ rfl rfl (Nat.le_of_ble_eq_true rfl) dX0_exchange_49 ?_
      refine z_istore (lv' := [(0, .ref (X.2.2 90)), (2, .int v2), (3, .int v3), (4, .int r3), (5, .int r4)]) S [1, 2, 3, 4, 0] dX0_exchange_52 (by decide) rfl ?_
      refine z_aload_n S dX0_exchange_54 rfl 0 rfl ?_
      refine z_getF (j := 92) S fo_RX0_17 2 rfl rfl ok_90 dX0_exchange_55 ?_
      refine z_iload S dX0_exchange_58 3 rfl ?_
      refine z_iload_n S dX0_exchange_60 rfl 1 rfl ?_
      obtain ⟨M5, h9, he⟩ := bnd he
      refine z_cNV (As := [.ref (X.2.2 92), .int r3, .int v2]) S cn_RX0_54 (K_X9_put ok_92 h9) ⟨rfl, rfl⟩ ⟨Nat.le_of_ble_eq_true rfl, Nat.le_of_ble_eq_true rfl⟩ ⟨Nat.le_refl _, Nat.le_refl _⟩ rfl rfl (Nat.le_of_ble_eq_true rfl) dX0_exchange_61 ?_
      refine z_iload S dX0_exchange_64 4 rfl ?_
      refine z_istore_n (lv' := [(0, .ref (X.2.2 90)), (2, .int r4), (3, .int v3)]) S [1, 0, 2] dX0_exchange_66 rfl (by decide) rfl ?_
      refine z_iinc (v := (v3 + 1)) (lv' := [(0, .ref (X.2.2 90)), (2, .int r4), (3, .int (v3 + 1))]) S [1, 2, 0] 2 dX0_exchange_67 rfl (by rfl) (by decide) rfl ?_
      refine z_goto (tgt := 22) S dX0_exchange_70 (by decide) ?_
      refine z_lv (ks := [0, 1, 2]) rfl ?_
      exact hc _ (Option.some.inj he).symm
set_option maxRecDepth 100000 in
set_option maxHeartbeats 4000000 in
theorem K_X0_exchange {X : Cx} {l : Launch} {M : Mm} {a1 : Int32} {N : Mm}  (he : f_X0_exchange M a1 = some N) : KV X 0 l yX0_exchange (wz yX0_exchange cX0_exchange 6 none) rm_X0_exchange [.ref (X.2.2 90), .int a1] M N := by
  intro sz
  refine K_of (Qc := (fun sz => QV X 0 N sz)) (own := RX0) (lv0 := [(0, .ref (X.2.2 90)), (1, .int a1)]) (by decide +kernel) rfl (Nat.le_of_ble_eq_true rfl) rfl (fun p e s m args below meth c S => ?_) sz
  · unfold f_X0_exchange at he
    refine z_aload_n S dX0_exchange_0 rfl 0 rfl ?_
    refine z_getF (j := 93) S fo_RX0_21 3 rfl rfl ok_90 dX0_exchange_1 ?_
    refine z_iload_n S dX0_exchange_4 rfl 1 rfl ?_
    refine z_aload_n S dX0_exchange_5 rfl 0 rfl ?_
    refine z_getF (j := 93) S fo_RX0_21 3 rfl rfl ok_90 dX0_exchange_6 ?_
    refine z_iload_n S dX0_exchange_9 rfl 1 rfl ?_
    obtain ⟨r1, h9, he⟩ := bnd he
    refine z_cNI (As := [.ref (X.2.2 93), .int a1]) S cn_RX0_97 (K_X9_at ok_93 h9) ⟨rfl, rfl⟩ ⟨Nat.le_of_ble_eq_true rfl, Nat.le_of_ble_eq_true rfl⟩ ⟨Nat.le_refl _, Nat.le_refl _⟩ rfl rfl (Nat.le_of_ble_eq_true rfl) dX0_exchange_10 ?_
    refine z_iconst (v := 1) S dX0_exchange_13 (by decide) ?_
    refine z_isub S dX0_exchange_14 ?_
    obtain ⟨M2, h9, he⟩ := bnd he
    refine z_cNV (As := [.ref (X.2.2 93), .int a1, .int (r1 - 1)]) S cn_RX0_54 (K_X9_put ok_93 h9) ⟨rfl, rfl⟩ ⟨Nat.le_of_ble_eq_true rfl, Nat.le_of_ble_eq_true rfl⟩ ⟨Nat.le_refl _, Nat.le_refl _⟩ rfl rfl (Nat.le_of_ble_eq_true rfl) dX0_exchange_15 ?_
    refine z_iload_n S dX0_exchange_18 rfl 1 rfl ?_
    refine z_istore_n (lv' := [(0, .ref (X.2.2 90)), (2, .int a1)]) S [1, 0] dX0_exchange_19 rfl (by decide) rfl ?_
    refine z_iconst (v := 0) S dX0_exchange_20 (by decide) ?_
    refine z_istore_n (lv' := [(0, .ref (X.2.2 90)), (2, .int a1), (3, .int 0)]) S [1, 2, 0] dX0_exchange_21 rfl (by decide) rfl ?_
    obtain ⟨e_6, hl, he⟩ := bnd he
    have hX : Z X 0 p l e rm_X0_exchange s m args below meth c 0 0 (MQ below (QV X 0 N s.heap.size) args s 0 0 (AA X 0 s.heap.size)) 6 e_6 73 [] [] := by
      exact z_vret S (Option.some.inj he) dX0_exchange_73
    exact loopZ (Zh := (fun a_6 => Z X 0 p l e rm_X0_exchange s m args below meth c 0 0 (MQ below (QV X 0 N s.heap.size) args s 0 0 (AA X 0 s.heap.size)) 6 a_6.1 22 [(0, .ref (X.2.2 90)), (2, .int a_6.2.1), (3, .int a_6.2.2)] [])) (fun a_6 x hb hc hr => p_X0_exchange_L22 S  hb hc (fun b hxe => by rw [hr b hxe]; exact hX)) FU _ hl
set_option maxRecDepth 100000 in
set_option maxHeartbeats 4000000 in
theorem p_X0_find_L26 {X : Cx} {p : Program} {l : Launch} {e : Env} {s : State} {m : MethodId} {args : Array Value} {below : List Frame} {meth : Method} {c : Code} (S : SB X 0 p s m args meth c cX0_find 5 none RX0) {M : Mm} {N : Mm} {v1 : Nat} {v3 : Int32} {x : (Mm × Int32) ⊕ Mm} (h_v1 : OK 0 v1 4) (he : f_X0_find_L26 M v1 v3 = some x) (hc : ∀ b, x = .inl b → Z X 0 p l e rm_X0_find s m args below meth c 0 0 (MQ below (QV X 0 N s.heap.size) args s 0 0 (AA X 0 s.heap.size)) 5 b.1 26 [(0, .ref (X.2.2 90)), (1, .ref (X.2.2 v1)), (2, .ref (X.2.2 82)), (3, .int b.2)] []) (hx : ∀ b, x = .inr b → Z X 0 p l e rm_X0_find s m args below meth c 0 0 (MQ below (QV X 0 N s.heap.size) args s 0 0 (AA X 0 s.heap.size)) 5 b 54 [(0, .ref (X.2.2 90)), (2, .ref (X.2.2 82))] []) : Z X 0 p l e rm_X0_find s m args below meth c 0 0 (MQ below (QV X 0 N s.heap.size) args s 0 0 (AA X 0 s.heap.size)) 5 M 26 [(0, .ref (X.2.2 90)), (1, .ref (X.2.2 v1)), (2, .ref (X.2.2 82)), (3, .int v3)] [] := by
  unfold f_X0_find_L26 at he
  refine z_iload_n S dX0_find_26 rfl 3 rfl ?_
  refine z_aload_n S dX0_find_27 rfl 0 rfl ?_
  refine z_getI S fo_RX0_39 rfl ok_90 dX0_find_28 ?_
  refine z_icmp_ge (tgt := 54) S he dX0_find_31 (by decide) (fun he => ?_) (fun he => ?_)
  · refine z_lv (ks := [0, 2]) rfl ?_
    exact hx _ (Option.some.inj he).symm
  · refine z_aload_n S dX0_find_34 rfl 0 rfl ?_
    refine z_getF (j := 93) S fo_RX0_21 3 rfl rfl ok_90 dX0_find_35 ?_
    refine z_iload_n S dX0_find_38 rfl 3 rfl ?_
    refine z_aload_n S dX0_find_39 rfl 1 rfl ?_
    refine z_iload_n S dX0_find_40 rfl 3 rfl ?_
    refine z_iconst (v := 2) S dX0_find_41 (by decide) ?_
    obtain ⟨r4, h9, he⟩ := bnd he
    refine z_cVI (As := [.int v3, .int 2]) S cv_RX0_50 (K_X4_ofThing h_v1 h9) h_v1 (by decide) (q := (RX4, TX4, 10)) rfl rfl ⟨rfl, rfl⟩ ⟨Nat.le_of_ble_eq_true rfl, Nat.le_of_ble_eq_true rfl⟩ ⟨Nat.le_refl _, Nat.le_refl _⟩ rfl rfl (Nat.le_of_ble_eq_true rfl) dX0_find_42 ?_
    obtain ⟨M5, h9, he⟩ := bnd he
    refine z_cNV (As := [.ref (X.2.2 93), .int v3, .int r4]) S cn_RX0_54 (K_X9_put ok_93 h9) ⟨rfl, rfl⟩ ⟨Nat.le_of_ble_eq_true rfl, Nat.le_of_ble_eq_true rfl⟩ ⟨Nat.le_refl _, Nat.le_refl _⟩ rfl rfl (Nat.le_of_ble_eq_true rfl) dX0_find_45 ?_
    refine z_iinc (v := (v3 + 1)) (lv' := [(0, .ref (X.2.2 90)), (1, .ref (X.2.2 v1)), (2, .ref (X.2.2 82)), (3, .int (v3 + 1))]) S [1, 2, 3, 0] 3 dX0_find_48 rfl (by rfl) (by decide) rfl ?_
    refine z_goto (tgt := 26) S dX0_find_51 (by decide) ?_
    refine z_lv (ks := [0, 1, 2, 3]) rfl ?_
    exact hc _ (Option.some.inj he).symm
set_option maxRecDepth 100000 in
set_option maxHeartbeats 4000000 in
theorem p_X0_find_L61 {X : Cx} {p : Program} {l : Launch} {e : Env} {s : State} {m : MethodId} {args : Array Value} {below : List Frame} {meth : Method} {c : Code} (S : SB X 0 p s m args meth c cX0_find 5 none RX0) {M : Mm} {N : Mm} {v3 : Int32} {x : (Mm × Int32) ⊕ ((Mm) ⊕ Mm)}  (he : f_X0_find_L61 M v3 = some x) (hc : ∀ b, x = .inl b → Z X 0 p l e rm_X0_find s m args below meth c 0 0 (MQ below (QV X 0 N s.heap.size) args s 0 0 (AA X 0 s.heap.size)) 5 b.1 61 [(0, .ref (X.2.2 90)), (3, .int b.2)] []) (hx : ∀ b, x = .inr (.inr b) → Z X 0 p l e rm_X0_find s m args below meth c 0 0 (MQ below (QV X 0 N s.heap.size) args s 0 0 (AA X 0 s.heap.size)) 5 b 94 [] []) (hr : ∀ v, x = .inr (.inl v) → v = N) : Z X 0 p l e rm_X0_find s m args below meth c 0 0 (MQ below (QV X 0 N s.heap.size) args s 0 0 (AA X 0 s.heap.size)) 5 M 61 [(0, .ref (X.2.2 90)), (3, .int v3)] [] := by
  unfold f_X0_find_L61 at he
  refine z_iload_n S dX0_find_61 rfl 1 rfl ?_
  refine z_aload_n S dX0_find_62 rfl 0 rfl ?_
  refine z_getI S fo_RX0_43 rfl ok_90 dX0_find_63 ?_
  refine z_icmp_ge (tgt := 94) S he dX0_find_66 (by decide) (fun he => ?_) (fun he => ?_)
  · refine z_lv (ks := []) rfl ?_
    exact hx _ (Option.some.inj he).symm
  · refine z_aload_n S dX0_find_69 rfl 0 rfl ?_
    obtain ⟨⟨r8, M9⟩, h9, he⟩ := bnd he
    dsimp only at he
    refine z_cVI (As := []) S cv_RX0_62 (K_X0_bestEnd  h9) ok_90 (by decide) (q := (RX0, TX0, 8)) rfl rfl ⟨rfl, rfl⟩ ⟨Nat.le_of_ble_eq_true rfl, Nat.le_of_ble_eq_true rfl⟩ ⟨Nat.le_refl _, Nat.le_refl _⟩ rfl rfl (Nat.le_of_ble_eq_true rfl) dX0_find_70 ?_
    refine z_istore (lv' := [(0, .ref (X.2.2 90)), (3, .int v3), (4, .int r8)]) S [1, 2, 0] dX0_find_73 (by decide) rfl ?_
    refine z_iload S dX0_find_75 2 rfl ?_
    refine z_iconst (v := (-1)) S dX0_find_77 (by decide) ?_
    refine z_icmp_ne (tgt := 82) S he dX0_find_78 (by decide) (fun he => ?_) (fun he => ?_)
    · refine z_aload_n S dX0_find_82 rfl 0 rfl ?_
      refine z_iload S dX0_find_83 2 rfl ?_
      obtain ⟨M10, h9, he⟩ := bnd he
      refine z_cVV (As := [.int r8]) S cv_RX0_66 (K_X0_exchange  h9) ok_90 (by decide) (q := (RX0, TX0, 8)) rfl rfl ⟨rfl, rfl⟩ ⟨Nat.le_of_ble_eq_true rfl, Nat.le_of_ble_eq_true rfl⟩ ⟨Nat.le_refl _, Nat.le_refl _⟩ rfl rfl (Nat.le_of_ble_eq_true rfl) dX0_find_85 ?_
      refine z_iinc (v := (v3 + 1)) (lv' := [(0, .ref (X.2.2 90)), (3, .int (v3 + 1)), (4, .int r8)]) S [1, 0, 2] 1 dX0_find_88 rfl (by rfl) (by decide) rfl ?_
      refine z_goto (tgt := 61) S dX0_find_91 (by decide) ?_
      refine z_lv (ks := [0, 1]) rfl ?_
      exact hc _ (Option.some.inj he).symm
    · exact z_vret S (hr _ (Option.some.inj he).symm) dX0_find_81
set_option maxRecDepth 100000 in
set_option maxHeartbeats 4000000 in
theorem K_X0_find {X : Cx} {l : Launch} {M : Mm} {a1 : Nat} {N : Mm} (h_a1 : OK 0 a1 4) (he : f_X0_find M a1 = some N) : KV X 0 l yX0_find (wz yX0_find cX0_find 5 none) rm_X0_find [.ref (X.2.2 90), .ref (X.2.2 a1), .ref (X.2.2 82)] M N := by
  intro sz
  refine K_of (Qc := (fun sz => QV X 0 N sz)) (own := RX0) (lv0 := [(0, .ref (X.2.2 90)), (1, .ref (X.2.2 a1)), (2, .ref (X.2.2 82))]) (by decide +kernel) rfl (Nat.le_of_ble_eq_true rfl) rfl (fun p e s m args below meth c S => ?_) sz
  · unfold f_X0_find at he
    refine z_aload_n S dX0_find_0 rfl 0 rfl ?_
    refine z_aload_n S dX0_find_1 rfl 1 rfl ?_
    refine z_getI S fo_RX0_33 rfl h_a1 dX0_find_2 ?_
    refine z_putIb S fo_RX0_39p rfl ok_90 rfl rfl he dX0_find_5 (fun M1 he => ?_)
    refine z_aload_n S dX0_find_8 rfl 0 rfl ?_
    refine z_aload_n S dX0_find_9 rfl 1 rfl ?_
    refine z_getI S fo_RX0_40 rfl h_a1 dX0_find_10 ?_
    refine z_putIb S fo_RX0_43p rfl ok_90 rfl rfl he dX0_find_13 (fun M2 he => ?_)
    refine z_aload_n S dX0_find_16 rfl 0 rfl ?_
    refine z_getF (j := 92) S fo_RX0_17 2 rfl rfl ok_90 dX0_find_17 ?_
    refine z_iconst (v := (-1)) S dX0_find_20 (by decide) ?_
    obtain ⟨M3, h9, he⟩ := bnd he
    refine z_cSV (As := [.ref (X.2.2 92), .int (-1)]) S cs_RX0_44 (K_J7_fill_53178 ok_92 h9) ⟨rfl, rfl⟩ ⟨Nat.le_of_ble_eq_true rfl, Nat.le_of_ble_eq_true rfl⟩ ⟨Nat.le_refl _, Nat.le_refl _⟩ rfl rfl (Nat.le_of_ble_eq_true rfl) dX0_find_21 ?_
    refine z_iconst (v := 0) S dX0_find_24 (by decide) ?_
    refine z_istore_n (lv' := [(0, .ref (X.2.2 90)), (1, .ref (X.2.2 a1)), (2, .ref (X.2.2 82)), (3, .int 0)]) S [1, 2, 3, 0] dX0_find_25 rfl (by decide) rfl ?_
    obtain ⟨e_6, hl, he⟩ := bnd he
    have hX : Z X 0 p l e rm_X0_find s m args below meth c 0 0 (MQ below (QV X 0 N s.heap.size) args s 0 0 (AA X 0 s.heap.size)) 5 e_6 54 [(0, .ref (X.2.2 90)), (2, .ref (X.2.2 82))] [] := by
      refine z_aload_n S dX0_find_54 rfl 0 rfl ?_
      refine z_aload_n S dX0_find_55 rfl 1 rfl ?_
      obtain ⟨M7, h9, he⟩ := bnd he
      refine z_cVV (As := [.ref (X.2.2 82)]) S cv_RX0_58 (K_X0_setWorths  h9) ok_90 (by decide) (q := (RX0, TX0, 8)) rfl rfl ⟨rfl, rfl⟩ ⟨Nat.le_of_ble_eq_true rfl, Nat.le_of_ble_eq_true rfl⟩ ⟨Nat.le_refl _, Nat.le_refl _⟩ rfl rfl (Nat.le_of_ble_eq_true rfl) dX0_find_56 ?_
      refine z_iconst (v := 0) S dX0_find_59 (by decide) ?_
      refine z_istore_n (lv' := [(0, .ref (X.2.2 90)), (3, .int 0)]) S [1, 0] dX0_find_60 rfl (by decide) rfl ?_
      obtain ⟨r9, hl, hr1, hr2⟩ := bndS he
      have hX : ∀ e_11, r9 = .inr e_11 → Z X 0 p l e rm_X0_find s m args below meth c 0 0 (MQ below (QV X 0 N s.heap.size) args s 0 0 (AA X 0 s.heap.size)) 5 e_11 94 [] [] := by
        intro e_11 hre
        have he := hr2 e_11 hre
        exact z_vret S (Option.some.inj he) dX0_find_94
      exact loopZ (Zh := (fun a_11 => Z X 0 p l e rm_X0_find s m args below meth c 0 0 (MQ below (QV X 0 N s.heap.size) args s 0 0 (AA X 0 s.heap.size)) 5 a_11.1 61 [(0, .ref (X.2.2 90)), (3, .int a_11.2)] [])) (fun a_11 x hb hc hr9 => p_X0_find_L61 S  hb hc (fun b hxe => hX b (hr9 _ hxe).symm) (fun v hxv => Option.some.inj (hr1 v (hr9 _ hxv).symm))) FU _ hl
    exact loopZ (Zh := (fun a_6 => Z X 0 p l e rm_X0_find s m args below meth c 0 0 (MQ below (QV X 0 N s.heap.size) args s 0 0 (AA X 0 s.heap.size)) 5 a_6.1 26 [(0, .ref (X.2.2 90)), (1, .ref (X.2.2 a1)), (2, .ref (X.2.2 82)), (3, .int a_6.2)] [])) (fun a_6 x hb hc hr => p_X0_find_L26 S h_a1 hb hc (fun b hxe => by rw [hr b hxe]; exact hX)) FU _ hl
set_option maxRecDepth 100000 in
set_option maxHeartbeats 4000000 in
theorem p_X0_sum_L4 {X : Cx} {p : Program} {l : Launch} {e : Env} {s : State} {m : MethodId} {args : Array Value} {below : List Frame} {meth : Method} {c : Code} (S : SB X 0 p s m args meth c cX0_sum 5 (some .int) RX0) {M : Mm} {r : Int32} {v2 : Int32} {v3 : Int32} {x : (Int32 × Int32) ⊕ Int32}  (he : f_X0_sum_L4 M v2 v3 = some x) (hc : ∀ b, x = .inl b → Z X 0 p l e rm_X0_sum s m args below meth c 0 0 (MQ below (QI X 0 r M s.heap.size) args s 0 0 (AA X 0 s.heap.size)) 5 M 4 [(0, .ref (X.2.2 90)), (1, .ref (X.2.2 82)), (2, .int b.1), (3, .int b.2)] []) (hx : ∀ b, x = .inr b → Z X 0 p l e rm_X0_sum s m args below meth c 0 0 (MQ below (QI X 0 r M s.heap.size) args s 0 0 (AA X 0 s.heap.size)) 5 M 48 [(2, .int b)] []) : Z X 0 p l e rm_X0_sum s m args below meth c 0 0 (MQ below (QI X 0 r M s.heap.size) args s 0 0 (AA X 0 s.heap.size)) 5 M 4 [(0, .ref (X.2.2 90)), (1, .ref (X.2.2 82)), (2, .int v2), (3, .int v3)] [] := by
  unfold f_X0_sum_L4 at he
  refine z_iload_n S dX0_sum_4 rfl 3 rfl ?_
  refine z_aload_n S dX0_sum_5 rfl 0 rfl ?_
  refine z_getI S fo_RX0_43 rfl ok_90 dX0_sum_6 ?_
  refine z_icmp_ge (tgt := 48) S he dX0_sum_9 (by decide) (fun he => ?_) (fun he => ?_)
  · refine z_lv (ks := [2]) rfl ?_
    exact hx _ (Option.some.inj he).symm
  · refine z_aload_n S dX0_sum_12 rfl 0 rfl ?_
    refine z_getF (j := 92) S fo_RX0_17 2 rfl rfl ok_90 dX0_sum_13 ?_
    refine z_iload_n S dX0_sum_16 rfl 3 rfl ?_
    obtain ⟨r1, h9, he⟩ := bnd he
    refine z_cNI (As := [.ref (X.2.2 92), .int v3]) S cn_RX0_97 (K_X9_at ok_92 h9) ⟨rfl, rfl⟩ ⟨Nat.le_of_ble_eq_true rfl, Nat.le_of_ble_eq_true rfl⟩ ⟨Nat.le_refl _, Nat.le_refl _⟩ rfl rfl (Nat.le_of_ble_eq_true rfl) dX0_sum_17 ?_
    refine z_istore (lv' := [(0, .ref (X.2.2 90)), (1, .ref (X.2.2 82)), (2, .int v2), (3, .int v3), (4, .int r1)]) S [1, 2, 3, 4, 0] dX0_sum_20 (by decide) rfl ?_
    refine z_iload_n S dX0_sum_22 rfl 2 rfl ?_
    refine z_iload S dX0_sum_23 4 rfl ?_
    refine z_iconst (v := (-1)) S dX0_sum_25 (by decide) ?_
    refine z_icmp_ne (tgt := 33) S he dX0_sum_26 (by decide) (fun he => ?_) (fun he => ?_)
    · refine z_aload_n S dX0_sum_33 rfl 1 rfl ?_
      refine z_iload S dX0_sum_34 4 rfl ?_
      refine z_iload_n S dX0_sum_36 rfl 3 rfl ?_
      obtain ⟨r2, h9, he⟩ := bnd he
      refine z_cVI (As := [.int r1, .int v3]) S cv_RX0_72 (K_X6_likes  h9) ok_82 (by decide) (q := (RX6, TX6, 4)) rfl rfl ⟨rfl, rfl⟩ ⟨Nat.le_of_ble_eq_true rfl, Nat.le_of_ble_eq_true rfl⟩ ⟨Nat.le_refl _, Nat.le_refl _⟩ rfl rfl (Nat.le_of_ble_eq_true rfl) dX0_sum_37 ?_
      refine z_iadd S dX0_sum_40 ?_
      refine z_istore_n (lv' := [(0, .ref (X.2.2 90)), (1, .ref (X.2.2 82)), (2, .int (v2 + r2)), (3, .int v3)]) S [1, 2, 0, 3] dX0_sum_41 rfl (by decide) rfl ?_
      refine z_iinc (v := (v3 + 1)) (lv' := [(0, .ref (X.2.2 90)), (1, .ref (X.2.2 82)), (2, .int (v2 + r2)), (3, .int (v3 + 1))]) S [1, 2, 3, 0] 3 dX0_sum_42 rfl (by rfl) (by decide) rfl ?_
      refine z_goto (tgt := 4) S dX0_sum_45 (by decide) ?_
      refine z_lv (ks := [0, 1, 2, 3]) rfl ?_
      exact hc _ (Option.some.inj he).symm
    · refine z_iconst (v := 0) S dX0_sum_29 (by decide) ?_
      refine z_goto (tgt := 40) S dX0_sum_30 (by decide) ?_
      refine z_iadd S dX0_sum_40 ?_
      refine z_istore_n (lv' := [(0, .ref (X.2.2 90)), (1, .ref (X.2.2 82)), (2, .int (v2 + 0)), (3, .int v3)]) S [1, 2, 0, 3] dX0_sum_41 rfl (by decide) rfl ?_
      refine z_iinc (v := (v3 + 1)) (lv' := [(0, .ref (X.2.2 90)), (1, .ref (X.2.2 82)), (2, .int (v2 + 0)), (3, .int (v3 + 1))]) S [1, 2, 3, 0] 3 dX0_sum_42 rfl (by rfl) (by decide) rfl ?_
      refine z_goto (tgt := 4) S dX0_sum_45 (by decide) ?_
      refine z_lv (ks := [0, 1, 2, 3]) rfl ?_
      exact hc _ (Option.some.inj he).symm
set_option maxRecDepth 100000 in
set_option maxHeartbeats 4000000 in
theorem K_X0_sum {X : Cx} {l : Launch} {M : Mm} {r : Int32}  (he : f_X0_sum M  = some r) : KI X 0 l yX0_sum (wz yX0_sum cX0_sum 5 (some .int)) rm_X0_sum [.ref (X.2.2 90), .ref (X.2.2 82)] M r M := by
  intro sz
  refine K_of (Qc := (fun sz => QI X 0 r M sz)) (own := RX0) (lv0 := [(0, .ref (X.2.2 90)), (1, .ref (X.2.2 82))]) (by decide +kernel) rfl (Nat.le_of_ble_eq_true rfl) rfl (fun p e s m args below meth c S => ?_) sz
  · unfold f_X0_sum at he
    refine z_iconst (v := 0) S dX0_sum_0 (by decide) ?_
    refine z_istore_n (lv' := [(0, .ref (X.2.2 90)), (1, .ref (X.2.2 82)), (2, .int 0)]) S [1, 2, 0] dX0_sum_1 rfl (by decide) rfl ?_
    refine z_iconst (v := 0) S dX0_sum_2 (by decide) ?_
    refine z_istore_n (lv' := [(0, .ref (X.2.2 90)), (1, .ref (X.2.2 82)), (2, .int 0), (3, .int 0)]) S [1, 2, 3, 0] dX0_sum_3 rfl (by decide) rfl ?_
    obtain ⟨e_3, hl, he⟩ := bnd he
    have hX : Z X 0 p l e rm_X0_sum s m args below meth c 0 0 (MQ below (QI X 0 r M s.heap.size) args s 0 0 (AA X 0 s.heap.size)) 5 M 48 [(2, .int e_3)] [] := by
      refine z_iload_n S dX0_sum_48 rfl 0 rfl ?_
      exact z_iret S (⟨Option.some.inj he, rfl⟩) dX0_sum_49
    exact loopZ (Zh := (fun a_3 => Z X 0 p l e rm_X0_sum s m args below meth c 0 0 (MQ below (QI X 0 r M s.heap.size) args s 0 0 (AA X 0 s.heap.size)) 5 M 4 [(0, .ref (X.2.2 90)), (1, .ref (X.2.2 82)), (2, .int a_3.1), (3, .int a_3.2)] [])) (fun a_3 x hb hc hr => p_X0_sum_L4 S  hb hc (fun b hxe => by rw [hr b hxe]; exact hX)) FU _ hl
set_option maxRecDepth 100000 in
set_option maxHeartbeats 4000000 in
theorem K_X9_tomorrow {X : Cx} {l : Launch} {M : Mm} {a1 : Nat} {r : Int32} {N : Mm} (h_a1 : OK 0 a1 4) (he : f_X9_tomorrow M a1 = some (r, N)) : KI X 0 l yX9_tomorrow (wz yX9_tomorrow cX9_tomorrow 2 (some .int)) rm_X9_tomorrow [.ref (X.2.2 1), .ref (X.2.2 a1)] M r N := by
  intro sz
  refine K_of (Qc := (fun sz => QI X 0 r N sz)) (own := RX9) (lv0 := [(0, .ref (X.2.2 1)), (1, .ref (X.2.2 a1))]) (by decide +kernel) rfl (Nat.le_of_ble_eq_true rfl) rfl (fun p e s m args below meth c S => ?_) sz
  · unfold f_X9_tomorrow at he
    refine z_aload_n S dX9_tomorrow_0 rfl 0 rfl ?_
    refine z_getF (j := 82) S fo_RX9_50 81 rfl rfl ok_1 dX9_tomorrow_1 ?_
    refine z_aload_n S dX9_tomorrow_4 rfl 1 rfl ?_
    refine z_aload_n S dX9_tomorrow_5 rfl 0 rfl ?_
    refine z_getGb (k2 := 2) S fo_RX9_30 rfl ok_1 (by decide) he dX9_tomorrow_6 (fun q1 hq1 he => ?_)
    obtain ⟨M2, h9, he⟩ := bnd he
    refine z_cVV (As := [.ref (X.2.2 a1), .ref (X.2.2 q1)]) S cv_RX9_198 (K_X6_weigh h_a1 (okk2 hq1) h9) ok_82 (by decide) (q := (RX6, TX6, 4)) rfl rfl ⟨rfl, rfl⟩ ⟨Nat.le_of_ble_eq_true rfl, Nat.le_of_ble_eq_true rfl⟩ ⟨Nat.le_refl _, Nat.le_refl _⟩ rfl rfl (Nat.le_of_ble_eq_true rfl) dX9_tomorrow_9 ?_
    refine z_aload_n S dX9_tomorrow_12 rfl 0 rfl ?_
    refine z_getF (j := 82) S fo_RX9_50 81 rfl rfl ok_1 dX9_tomorrow_13 ?_
    refine z_aload_n S dX9_tomorrow_16 rfl 1 rfl ?_
    refine z_iconst (v := 0) S dX9_tomorrow_17 (by decide) ?_
    obtain ⟨⟨r3, M4⟩, h9, he⟩ := bnd he
    dsimp only at he
    refine z_cVI (As := [.ref (X.2.2 a1), .int 0]) S cv_RX9_202 (K_X6_lead h_a1 h9) ok_82 (by decide) (q := (RX6, TX6, 4)) rfl rfl ⟨rfl, rfl⟩ ⟨Nat.le_of_ble_eq_true rfl, Nat.le_of_ble_eq_true rfl⟩ ⟨Nat.le_refl _, Nat.le_refl _⟩ rfl rfl (Nat.le_of_ble_eq_true rfl) dX9_tomorrow_18 ?_
    exact z_iret S (Prod.mk.inj (Option.some.inj he)) dX9_tomorrow_21
set_option maxRecDepth 100000 in
set_option maxHeartbeats 4000000 in
theorem K_X9_useTapeUp {X : Cx} {l : Launch} {M : Mm} {r : Int32} {N : Mm}  (he : f_X9_useTapeUp M  = (r, N)) : KI X 0 l yX9_useTapeUp (wz yX9_useTapeUp cX9_useTapeUp 2 (some .int)) rm_X9_useTapeUp [.ref (X.2.2 1)] M r N := by
  intro sz
  refine K_of (Qc := (fun sz => QI X 0 r N sz)) (own := RX9) (lv0 := [(0, .ref (X.2.2 1))]) (by decide +kernel) rfl (Nat.le_of_ble_eq_true rfl) rfl (fun p e s m args below meth c S => ?_) sz
  · unfold f_X9_useTapeUp at he
    refine z_aload_n S dX9_useTapeUp_0 rfl 0 rfl ?_
    refine z_getI S fo_RX9_82 rfl ok_1 dX9_useTapeUp_1 ?_
    refine z_istore_n (lv' := [(0, .ref (X.2.2 1)), (1, .int (gI M 1 1))]) S [1, 0] dX9_useTapeUp_4 rfl (by decide) rfl ?_
    refine z_aload_n S dX9_useTapeUp_5 rfl 0 rfl ?_
    refine z_iconst (v := 0) S dX9_useTapeUp_6 (by decide) ?_
    refine z_putI S fo_RX9_82p rfl ok_1 rfl rfl dX9_useTapeUp_7 ?_
    refine z_iload_n S dX9_useTapeUp_10 rfl 1 rfl ?_
    exact z_iret S (Prod.mk.inj (he)) dX9_useTapeUp_11
set_option maxRecDepth 100000 in
set_option maxHeartbeats 4000000 in
theorem K_X7_isLetter {X : Cx} {l : Launch} {M : Mm} {a0 : Int32} {r : Bool}  (he : f_X7_isLetter M a0 = r) : KI X 0 l yX7_isLetter (wz yX7_isLetter cX7_isLetter 1 (some .boolean)) rm_X7_isLetter [.int a0] M (bI r) M := by
  intro sz
  refine K_of (Qc := (fun sz => QI X 0 (bI r) M sz)) (own := RX7) (lv0 := [(0, .int a0)]) (by decide +kernel) rfl (Nat.le_of_ble_eq_true rfl) rfl (fun p e s m args below meth c S => ?_) sz
  · unfold f_X7_isLetter at he
    refine z_iload_n S dX7_isLetter_0 rfl 0 rfl ?_
    refine z_bipush (v := 97) S dX7_isLetter_1 (by decide) ?_
    refine z_icmp_lt (tgt := 16) S he dX7_isLetter_3 (by decide) (fun he => ?_) (fun he => ?_)
    · refine z_iconst (v := 0) S dX7_isLetter_16 (by decide) ?_
      exact z_zret0 S (⟨he, rfl⟩) dX7_isLetter_17
    · refine z_iload_n S dX7_isLetter_6 rfl 0 rfl ?_
      refine z_bipush (v := 122) S dX7_isLetter_7 (by decide) ?_
      refine z_icmp_gt (tgt := 16) S he dX7_isLetter_9 (by decide) (fun he => ?_) (fun he => ?_)
      · refine z_iconst (v := 0) S dX7_isLetter_16 (by decide) ?_
        exact z_zret0 S (⟨he, rfl⟩) dX7_isLetter_17
      · refine z_iconst (v := 1) S dX7_isLetter_12 (by decide) ?_
        refine z_goto (tgt := 17) S dX7_isLetter_13 (by decide) ?_
        exact z_zret1 S (⟨he, rfl⟩) dX7_isLetter_17
set_option maxRecDepth 100000 in
set_option maxHeartbeats 4000000 in
theorem p_X7_endOfLetters_L2 {X : Cx} {p : Program} {l : Launch} {e : Env} {s : State} {m : MethodId} {args : Array Value} {below : List Frame} {meth : Method} {c : Code} (S : SB X 0 p s m args meth c cX7_endOfLetters 4 (some .int) RX7) {M : Mm} {r : Int32} {v0 : Nat} {v2 : Int32} {v3 : Int32} {x : Int32 ⊕ Int32} (h_v0 : OK 0 v0 30) (he : f_X7_endOfLetters_L2 M v0 v2 v3 = some x) (hc : ∀ b, x = .inl b → Z X 0 p l e rm_X7_endOfLetters s m args below meth c 0 0 (MQ below (QI X 0 r M s.heap.size) args s 0 0 (AA X 0 s.heap.size)) 4 M 2 [(0, .ref (X.2.2 v0)), (2, .int v2), (3, .int b)] []) (hx : ∀ b, x = .inr b → Z X 0 p l e rm_X7_endOfLetters s m args below meth c 0 0 (MQ below (QI X 0 r M s.heap.size) args s 0 0 (AA X 0 s.heap.size)) 4 M 24 [(3, .int b)] []) : Z X 0 p l e rm_X7_endOfLetters s m args below meth c 0 0 (MQ below (QI X 0 r M s.heap.size) args s 0 0 (AA X 0 s.heap.size)) 4 M 2 [(0, .ref (X.2.2 v0)), (2, .int v2), (3, .int v3)] [] := by
  unfold f_X7_endOfLetters_L2 at he
  refine z_iload_n S dX7_endOfLetters_2 rfl 2 rfl ?_
  refine z_iload_n S dX7_endOfLetters_3 rfl 1 rfl ?_
  refine z_icmp_ge (tgt := 24) S he dX7_endOfLetters_4 (by decide) (fun he => ?_) (fun he => ?_)
  · refine z_lv (ks := [2]) rfl ?_
    exact hx _ (Option.some.inj he).symm
  · refine z_aload_n S dX7_endOfLetters_7 rfl 0 rfl ?_
    refine z_iload_n S dX7_endOfLetters_8 rfl 2 rfl ?_
    obtain ⟨r1, h9, he⟩ := bnd he
    refine z_cNI (As := [.ref (X.2.2 v0), .int v3]) S cn_RX7_38 (K_X9_at h_v0 h9) ⟨rfl, rfl⟩ ⟨Nat.le_of_ble_eq_true rfl, Nat.le_of_ble_eq_true rfl⟩ ⟨Nat.le_refl _, Nat.le_refl _⟩ rfl rfl (Nat.le_of_ble_eq_true rfl) dX7_endOfLetters_9 ?_
    refine z_cSI (As := [.int r1]) S cs_RX7_42 (K_X7_isLetter  rfl) ⟨rfl, rfl⟩ ⟨Nat.le_of_ble_eq_true rfl, Nat.le_of_ble_eq_true rfl⟩ ⟨Nat.le_refl _, Nat.le_refl _⟩ rfl rfl (Nat.le_of_ble_eq_true rfl) dX7_endOfLetters_12 ?_
    refine z_ifb_eq (tgt := 24) S he dX7_endOfLetters_15 (by decide) (fun he => ?_) (fun he => ?_)
    · refine z_lv (ks := [2]) rfl ?_
      exact hx _ (Option.some.inj he).symm
    · refine z_iinc (v := (v3 + 1)) (lv' := [(0, .ref (X.2.2 v0)), (2, .int v2), (3, .int (v3 + 1))]) S [1, 2, 0] 2 dX7_endOfLetters_18 rfl (by rfl) (by decide) rfl ?_
      refine z_goto (tgt := 2) S dX7_endOfLetters_21 (by decide) ?_
      refine z_lv (ks := [0, 1, 2]) rfl ?_
      exact hc _ (Option.some.inj he).symm
set_option maxRecDepth 100000 in
set_option maxHeartbeats 4000000 in
theorem K_X7_endOfLetters {X : Cx} {l : Launch} {M : Mm} {a0 : Nat} {a1 : Int32} {a2 : Int32} {r : Int32} (h_a0 : OK 0 a0 30) (he : f_X7_endOfLetters M a0 a1 a2 = some r) : KI X 0 l yX7_endOfLetters (wz yX7_endOfLetters cX7_endOfLetters 4 (some .int)) rm_X7_endOfLetters [.ref (X.2.2 a0), .int a1, .int a2] M r M := by
  intro sz
  refine K_of (Qc := (fun sz => QI X 0 r M sz)) (own := RX7) (lv0 := [(0, .ref (X.2.2 a0)), (1, .int a1), (2, .int a2)]) (by decide +kernel) rfl (Nat.le_of_ble_eq_true rfl) rfl (fun p e s m args below meth c S => ?_) sz
  · unfold f_X7_endOfLetters at he
    refine z_iload_n S dX7_endOfLetters_0 rfl 1 rfl ?_
    refine z_istore_n (lv' := [(0, .ref (X.2.2 a0)), (2, .int a2), (3, .int a1)]) S [1, 3, 0] dX7_endOfLetters_1 rfl (by decide) rfl ?_
    obtain ⟨e_2, hl, he⟩ := bnd he
    have hX : Z X 0 p l e rm_X7_endOfLetters s m args below meth c 0 0 (MQ below (QI X 0 r M s.heap.size) args s 0 0 (AA X 0 s.heap.size)) 4 M 24 [(3, .int e_2)] [] := by
      refine z_iload_n S dX7_endOfLetters_24 rfl 0 rfl ?_
      exact z_iret S (⟨Option.some.inj he, rfl⟩) dX7_endOfLetters_25
    exact loopZ (Zh := (fun a_2 => Z X 0 p l e rm_X7_endOfLetters s m args below meth c 0 0 (MQ below (QI X 0 r M s.heap.size) args s 0 0 (AA X 0 s.heap.size)) 4 M 2 [(0, .ref (X.2.2 a0)), (2, .int a2), (3, .int a_2)] [])) (fun a_2 x hb hc hr => p_X7_endOfLetters_L2 S h_a0 hb hc (fun b hxe => by rw [hr b hxe]; exact hX)) FU _ hl
set_option maxRecDepth 100000 in
set_option maxHeartbeats 4000000 in
theorem p_X7_marksOf_L5 {X : Cx} {p : Program} {l : Launch} {e : Env} {s : State} {m : MethodId} {args : Array Value} {below : List Frame} {meth : Method} {c : Code} (S : SB X 0 p s m args meth c cX7_marksOf 6 (some .int) RX7) {M : Mm} {r : Int32} {v0 : Nat} {v2 : Int32} {v3 : Int32} {v4 : Int32} {x : (Int32 × Int32) ⊕ ((Int32) ⊕ Int32)} (h_v0 : OK 0 v0 30) (he : f_X7_marksOf_L5 M v0 v2 v3 v4 = some x) (hc : ∀ b, x = .inl b → Z X 0 p l e rm_X7_marksOf s m args below meth c 0 0 (MQ below (QI X 0 r M s.heap.size) args s 0 0 (AA X 0 s.heap.size)) 6 M 5 [(0, .ref (X.2.2 v0)), (2, .int v2), (3, .int b.1), (4, .int b.2)] []) (hx : ∀ b, x = .inr (.inr b) → Z X 0 p l e rm_X7_marksOf s m args below meth c 0 0 (MQ below (QI X 0 r M s.heap.size) args s 0 0 (AA X 0 s.heap.size)) 6 M 54 [(3, .int b)] []) (hr : ∀ v, x = .inr (.inl v) → v = r) : Z X 0 p l e rm_X7_marksOf s m args below meth c 0 0 (MQ below (QI X 0 r M s.heap.size) args s 0 0 (AA X 0 s.heap.size)) 6 M 5 [(0, .ref (X.2.2 v0)), (2, .int v2), (3, .int v3), (4, .int v4)] [] := by
  unfold f_X7_marksOf_L5 at he
  refine z_iload S dX7_marksOf_5 3 rfl ?_
  refine z_iload_n S dX7_marksOf_7 rfl 1 rfl ?_
  refine z_icmp_ge (tgt := 54) S he dX7_marksOf_8 (by decide) (fun he => ?_) (fun he => ?_)
  · refine z_lv (ks := [2]) rfl ?_
    exact hx _ (Option.some.inj he).symm
  · refine z_aload_n S dX7_marksOf_11 rfl 0 rfl ?_
    refine z_iload S dX7_marksOf_12 3 rfl ?_
    obtain ⟨r1, h9, he⟩ := bnd he
    refine z_cNI (As := [.ref (X.2.2 v0), .int v4]) S cn_RX7_38 (K_X9_at h_v0 h9) ⟨rfl, rfl⟩ ⟨Nat.le_of_ble_eq_true rfl, Nat.le_of_ble_eq_true rfl⟩ ⟨Nat.le_refl _, Nat.le_refl _⟩ rfl rfl (Nat.le_of_ble_eq_true rfl) dX7_marksOf_14 ?_
    refine z_bipush (v := 97) S dX7_marksOf_17 (by decide) ?_
    refine z_isub S dX7_marksOf_19 ?_
    refine z_istore (lv' := [(0, .ref (X.2.2 v0)), (2, .int v2), (3, .int v3), (4, .int v4), (5, .int (r1 - 97))]) S [1, 2, 3, 4, 0] dX7_marksOf_20 (by decide) rfl ?_
    refine z_iload S dX7_marksOf_22 4 rfl ?_
    refine z_bipush (v := 6) S dX7_marksOf_24 (by decide) ?_
    refine z_icmp_ge (tgt := 39) S he dX7_marksOf_26 (by decide) (fun he => ?_) (fun he => ?_)
    · refine z_iconst (v := (-1)) S dX7_marksOf_39 (by decide) ?_
      exact z_iret S (⟨hr _ (Option.some.inj he).symm, rfl⟩) dX7_marksOf_40
    · refine z_iload_n S dX7_marksOf_29 rfl 2 rfl ?_
      refine z_iload S dX7_marksOf_30 4 rfl ?_
      refine z_ishr S dX7_marksOf_32 ?_
      refine z_iconst (v := 1) S dX7_marksOf_33 (by decide) ?_
      refine z_iand S dX7_marksOf_34 ?_
      refine z_iconst (v := 1) S dX7_marksOf_35 (by decide) ?_
      refine z_icmp_ne (tgt := 41) S he dX7_marksOf_36 (by decide) (fun he => ?_) (fun he => ?_)
      · refine z_iload_n S dX7_marksOf_41 rfl 2 rfl ?_
        refine z_iconst (v := 1) S dX7_marksOf_42 (by decide) ?_
        refine z_iload S dX7_marksOf_43 4 rfl ?_
        refine z_ishl S dX7_marksOf_45 ?_
        refine z_ior S dX7_marksOf_46 ?_
        obtain ⟨x2, ex2, he⟩ := bnd he
        rw [Option.some.inj ex2]
        refine z_istore_n (lv' := [(0, .ref (X.2.2 v0)), (2, .int v2), (3, .int x2), (4, .int v4)]) S [1, 2, 0, 3] dX7_marksOf_47 rfl (by decide) rfl ?_
        refine z_iinc (v := (v4 + 1)) (lv' := [(0, .ref (X.2.2 v0)), (2, .int v2), (3, .int x2), (4, .int (v4 + 1))]) S [1, 2, 3, 0] 3 dX7_marksOf_48 rfl (by rfl) (by decide) rfl ?_
        refine z_goto (tgt := 5) S dX7_marksOf_51 (by decide) ?_
        refine z_lv (ks := [0, 1, 2, 3]) rfl ?_
        exact hc _ (Option.some.inj he).symm
      · refine z_iconst (v := (-1)) S dX7_marksOf_39 (by decide) ?_
        exact z_iret S (⟨hr _ (Option.some.inj he).symm, rfl⟩) dX7_marksOf_40
set_option maxRecDepth 100000 in
set_option maxHeartbeats 4000000 in
theorem K_X7_marksOf {X : Cx} {l : Launch} {M : Mm} {a0 : Nat} {a1 : Int32} {a2 : Int32} {r : Int32} (h_a0 : OK 0 a0 30) (he : f_X7_marksOf M a0 a1 a2 = some r) : KI X 0 l yX7_marksOf (wz yX7_marksOf cX7_marksOf 6 (some .int)) rm_X7_marksOf [.ref (X.2.2 a0), .int a1, .int a2] M r M := by
  intro sz
  refine K_of (Qc := (fun sz => QI X 0 r M sz)) (own := RX7) (lv0 := [(0, .ref (X.2.2 a0)), (1, .int a1), (2, .int a2)]) (by decide +kernel) rfl (Nat.le_of_ble_eq_true rfl) rfl (fun p e s m args below meth c S => ?_) sz
  · unfold f_X7_marksOf at he
    refine z_iconst (v := 0) S dX7_marksOf_0 (by decide) ?_
    refine z_istore_n (lv' := [(0, .ref (X.2.2 a0)), (1, .int a1), (2, .int a2), (3, .int 0)]) S [1, 2, 3, 0] dX7_marksOf_1 rfl (by decide) rfl ?_
    refine z_iload_n S dX7_marksOf_2 rfl 1 rfl ?_
    refine z_istore (lv' := [(0, .ref (X.2.2 a0)), (2, .int a2), (3, .int 0), (4, .int a1)]) S [1, 3, 4, 0] dX7_marksOf_3 (by decide) rfl ?_
    obtain ⟨r9, hl, hr1, hr2⟩ := bndS he
    have hX : ∀ e_3, r9 = .inr e_3 → Z X 0 p l e rm_X7_marksOf s m args below meth c 0 0 (MQ below (QI X 0 r M s.heap.size) args s 0 0 (AA X 0 s.heap.size)) 6 M 54 [(3, .int e_3)] [] := by
      intro e_3 hre
      have he := hr2 e_3 hre
      refine z_iload_n S dX7_marksOf_54 rfl 0 rfl ?_
      exact z_iret S (⟨Option.some.inj he, rfl⟩) dX7_marksOf_55
    exact loopZ (Zh := (fun a_3 => Z X 0 p l e rm_X7_marksOf s m args below meth c 0 0 (MQ below (QI X 0 r M s.heap.size) args s 0 0 (AA X 0 s.heap.size)) 6 M 5 [(0, .ref (X.2.2 a0)), (2, .int a2), (3, .int a_3.1), (4, .int a_3.2)] [])) (fun a_3 x hb hc hr9 => p_X7_marksOf_L5 S h_a0 hb hc (fun b hxe => hX b (hr9 _ hxe).symm) (fun v hxv => Option.some.inj (hr1 v (hr9 _ hxv).symm))) FU _ hl
set_option maxRecDepth 100000 in
set_option maxHeartbeats 4000000 in
theorem K_X7_add {X : Cx} {l : Launch} {M : Mm} {a0 : Nat} {a1 : Nat} {a2 : Int32} {a3 : Int32} {N : Mm} (h_a0 : OK 0 a0 7) (h_a1 : isW a1 = true) (he : f_X7_add M a0 a1 a2 a3 = some N) : KV X 0 l yX7_add (wz yX7_add cX7_add 4 none) rm_X7_add [.ref (X.2.2 a0), .ref (X.2.2 a1), .int a2, .int a3] M N := by
  intro sz
  refine K_of (Qc := (fun sz => QV X 0 N sz)) (own := RX7) (lv0 := [(0, .ref (X.2.2 a0)), (1, .ref (X.2.2 a1)), (2, .int a2), (3, .int a3)]) (by decide +kernel) rfl (Nat.le_of_ble_eq_true rfl) rfl (fun p e s m args below meth c S => ?_) sz
  · unfold f_X7_add at he
    refine z_aload_n S dX7_add_0 rfl 0 rfl ?_
    refine z_getI S fo_RX7_35 rfl h_a0 dX7_add_1 ?_
    refine z_if_lt (tgt := 63) S he dX7_add_4 (by decide) (fun he => ?_) (fun he => ?_)
    · exact z_vret S (Option.some.inj he) dX7_add_63
    · refine z_aload_n S dX7_add_7 rfl 0 rfl ?_
      refine z_getI S fo_RX7_35 rfl h_a0 dX7_add_8 ?_
      refine z_aload_n S dX7_add_11 rfl 0 rfl ?_
      refine z_getF (j := (a0 + 1)) S fo_RX7_11 1 rfl rfl h_a0 dX7_add_12 ?_
      refine z_alen (v := 401) S (okf7_1 h_a0).1 (cel_w (okf7_1 h_a0).1.2.2) rfl (okf7_1 h_a0).2 rfl dX7_add_15 ?_
      refine z_icmp_ge (tgt := 63) S he dX7_add_16 (by decide) (fun he => ?_) (fun he => ?_)
      · exact z_vret S (Option.some.inj he) dX7_add_63
      · refine z_aload_n S dX7_add_19 rfl 0 rfl ?_
        refine z_getF (j := (a0 + 1)) S fo_RX7_11 1 rfl rfl h_a0 dX7_add_20 ?_
        refine z_aload_n S dX7_add_23 rfl 0 rfl ?_
        refine z_getI S fo_RX7_35 rfl h_a0 dX7_add_24 ?_
        refine z_aload_n S dX7_add_27 rfl 1 rfl ?_
        refine z_wast S (okf7_1 h_a0).1 (okf7_1 h_a0).2 h_a1 he dX7_add_28 (fun M1 he => ?_)
        refine z_aload_n S dX7_add_29 rfl 0 rfl ?_
        refine z_getF (j := (a0 + 2)) S fo_RX7_17 2 rfl rfl h_a0 dX7_add_30 ?_
        refine z_aload_n S dX7_add_33 rfl 0 rfl ?_
        refine z_getI S fo_RX7_35 rfl h_a0 dX7_add_34 ?_
        refine z_iload_n S dX7_add_37 rfl 2 rfl ?_
        obtain ⟨M2, h9, he⟩ := bnd he
        refine z_cNV (As := [.ref (X.2.2 (a0 + 2)), .int (gI M1 a0 3), .int a2]) S cn_RX7_85 (K_X9_put (okf7_2 h_a0).1 h9) ⟨rfl, rfl⟩ ⟨Nat.le_of_ble_eq_true rfl, Nat.le_of_ble_eq_true rfl⟩ ⟨Nat.le_refl _, Nat.le_refl _⟩ rfl rfl (Nat.le_of_ble_eq_true rfl) dX7_add_38 ?_
        refine z_aload_n S dX7_add_41 rfl 0 rfl ?_
        refine z_getF (j := (a0 + 3)) S fo_RX7_21 3 rfl rfl h_a0 dX7_add_42 ?_
        refine z_aload_n S dX7_add_45 rfl 0 rfl ?_
        refine z_getI S fo_RX7_35 rfl h_a0 dX7_add_46 ?_
        refine z_iload_n S dX7_add_49 rfl 3 rfl ?_
        obtain ⟨M3, h9, he⟩ := bnd he
        refine z_cNV (As := [.ref (X.2.2 (a0 + 3)), .int (gI M2 a0 3), .int a3]) S cn_RX7_85 (K_X9_put (okf7_3 h_a0).1 h9) ⟨rfl, rfl⟩ ⟨Nat.le_of_ble_eq_true rfl, Nat.le_of_ble_eq_true rfl⟩ ⟨Nat.le_refl _, Nat.le_refl _⟩ rfl rfl (Nat.le_of_ble_eq_true rfl) dX7_add_50 ?_
        refine z_aload_n S dX7_add_53 rfl 0 rfl ?_
        refine z_dup S rfl dX7_add_54 ?_
        refine z_getI S fo_RX7_35 rfl h_a0 dX7_add_55 ?_
        refine z_iconst (v := 1) S dX7_add_58 (by decide) ?_
        refine z_iadd S dX7_add_59 ?_
        refine z_putIb S fo_RX7_35p rfl h_a0 rfl rfl he dX7_add_60 (fun M4 he => ?_)
        exact z_vret S (Option.some.inj he) dX7_add_63
set_option maxRecDepth 100000 in
set_option maxHeartbeats 4000000 in
theorem K_X7_isDigit {X : Cx} {l : Launch} {M : Mm} {a0 : Int32} {r : Bool}  (he : f_X7_isDigit M a0 = r) : KI X 0 l yX7_isDigit (wz yX7_isDigit cX7_isDigit 1 (some .boolean)) rm_X7_isDigit [.int a0] M (bI r) M := by
  intro sz
  refine K_of (Qc := (fun sz => QI X 0 (bI r) M sz)) (own := RX7) (lv0 := [(0, .int a0)]) (by decide +kernel) rfl (Nat.le_of_ble_eq_true rfl) rfl (fun p e s m args below meth c S => ?_) sz
  · unfold f_X7_isDigit at he
    refine z_iload_n S dX7_isDigit_0 rfl 0 rfl ?_
    refine z_bipush (v := 48) S dX7_isDigit_1 (by decide) ?_
    refine z_icmp_lt (tgt := 16) S he dX7_isDigit_3 (by decide) (fun he => ?_) (fun he => ?_)
    · refine z_iconst (v := 0) S dX7_isDigit_16 (by decide) ?_
      exact z_zret0 S (⟨he, rfl⟩) dX7_isDigit_17
    · refine z_iload_n S dX7_isDigit_6 rfl 0 rfl ?_
      refine z_bipush (v := 57) S dX7_isDigit_7 (by decide) ?_
      refine z_icmp_gt (tgt := 16) S he dX7_isDigit_9 (by decide) (fun he => ?_) (fun he => ?_)
      · refine z_iconst (v := 0) S dX7_isDigit_16 (by decide) ?_
        exact z_zret0 S (⟨he, rfl⟩) dX7_isDigit_17
      · refine z_iconst (v := 1) S dX7_isDigit_12 (by decide) ?_
        refine z_goto (tgt := 17) S dX7_isDigit_13 (by decide) ?_
        exact z_zret1 S (⟨he, rfl⟩) dX7_isDigit_17
set_option maxRecDepth 100000 in
set_option maxHeartbeats 4000000 in
theorem p_X7_endOfDigits_L2 {X : Cx} {p : Program} {l : Launch} {e : Env} {s : State} {m : MethodId} {args : Array Value} {below : List Frame} {meth : Method} {c : Code} (S : SB X 0 p s m args meth c cX7_endOfDigits 4 (some .int) RX7) {M : Mm} {r : Int32} {v0 : Nat} {v2 : Int32} {v3 : Int32} {x : Int32 ⊕ Int32} (h_v0 : OK 0 v0 30) (he : f_X7_endOfDigits_L2 M v0 v2 v3 = some x) (hc : ∀ b, x = .inl b → Z X 0 p l e rm_X7_endOfDigits s m args below meth c 0 0 (MQ below (QI X 0 r M s.heap.size) args s 0 0 (AA X 0 s.heap.size)) 4 M 2 [(0, .ref (X.2.2 v0)), (2, .int v2), (3, .int b)] []) (hx : ∀ b, x = .inr b → Z X 0 p l e rm_X7_endOfDigits s m args below meth c 0 0 (MQ below (QI X 0 r M s.heap.size) args s 0 0 (AA X 0 s.heap.size)) 4 M 24 [(3, .int b)] []) : Z X 0 p l e rm_X7_endOfDigits s m args below meth c 0 0 (MQ below (QI X 0 r M s.heap.size) args s 0 0 (AA X 0 s.heap.size)) 4 M 2 [(0, .ref (X.2.2 v0)), (2, .int v2), (3, .int v3)] [] := by
  unfold f_X7_endOfDigits_L2 at he
  refine z_iload_n S dX7_endOfDigits_2 rfl 2 rfl ?_
  refine z_iload_n S dX7_endOfDigits_3 rfl 1 rfl ?_
  refine z_icmp_ge (tgt := 24) S he dX7_endOfDigits_4 (by decide) (fun he => ?_) (fun he => ?_)
  · refine z_lv (ks := [2]) rfl ?_
    exact hx _ (Option.some.inj he).symm
  · refine z_aload_n S dX7_endOfDigits_7 rfl 0 rfl ?_
    refine z_iload_n S dX7_endOfDigits_8 rfl 2 rfl ?_
    obtain ⟨r1, h9, he⟩ := bnd he
    refine z_cNI (As := [.ref (X.2.2 v0), .int v3]) S cn_RX7_38 (K_X9_at h_v0 h9) ⟨rfl, rfl⟩ ⟨Nat.le_of_ble_eq_true rfl, Nat.le_of_ble_eq_true rfl⟩ ⟨Nat.le_refl _, Nat.le_refl _⟩ rfl rfl (Nat.le_of_ble_eq_true rfl) dX7_endOfDigits_9 ?_
    refine z_cSI (As := [.int r1]) S cs_RX7_61 (K_X7_isDigit  rfl) ⟨rfl, rfl⟩ ⟨Nat.le_of_ble_eq_true rfl, Nat.le_of_ble_eq_true rfl⟩ ⟨Nat.le_refl _, Nat.le_refl _⟩ rfl rfl (Nat.le_of_ble_eq_true rfl) dX7_endOfDigits_12 ?_
    refine z_ifb_eq (tgt := 24) S he dX7_endOfDigits_15 (by decide) (fun he => ?_) (fun he => ?_)
    · refine z_lv (ks := [2]) rfl ?_
      exact hx _ (Option.some.inj he).symm
    · refine z_iinc (v := (v3 + 1)) (lv' := [(0, .ref (X.2.2 v0)), (2, .int v2), (3, .int (v3 + 1))]) S [1, 2, 0] 2 dX7_endOfDigits_18 rfl (by rfl) (by decide) rfl ?_
      refine z_goto (tgt := 2) S dX7_endOfDigits_21 (by decide) ?_
      refine z_lv (ks := [0, 1, 2]) rfl ?_
      exact hc _ (Option.some.inj he).symm
set_option maxRecDepth 100000 in
set_option maxHeartbeats 4000000 in
theorem K_X7_endOfDigits {X : Cx} {l : Launch} {M : Mm} {a0 : Nat} {a1 : Int32} {a2 : Int32} {r : Int32} (h_a0 : OK 0 a0 30) (he : f_X7_endOfDigits M a0 a1 a2 = some r) : KI X 0 l yX7_endOfDigits (wz yX7_endOfDigits cX7_endOfDigits 4 (some .int)) rm_X7_endOfDigits [.ref (X.2.2 a0), .int a1, .int a2] M r M := by
  intro sz
  refine K_of (Qc := (fun sz => QI X 0 r M sz)) (own := RX7) (lv0 := [(0, .ref (X.2.2 a0)), (1, .int a1), (2, .int a2)]) (by decide +kernel) rfl (Nat.le_of_ble_eq_true rfl) rfl (fun p e s m args below meth c S => ?_) sz
  · unfold f_X7_endOfDigits at he
    refine z_iload_n S dX7_endOfDigits_0 rfl 1 rfl ?_
    refine z_istore_n (lv' := [(0, .ref (X.2.2 a0)), (2, .int a2), (3, .int a1)]) S [1, 3, 0] dX7_endOfDigits_1 rfl (by decide) rfl ?_
    obtain ⟨e_2, hl, he⟩ := bnd he
    have hX : Z X 0 p l e rm_X7_endOfDigits s m args below meth c 0 0 (MQ below (QI X 0 r M s.heap.size) args s 0 0 (AA X 0 s.heap.size)) 4 M 24 [(3, .int e_2)] [] := by
      refine z_iload_n S dX7_endOfDigits_24 rfl 0 rfl ?_
      exact z_iret S (⟨Option.some.inj he, rfl⟩) dX7_endOfDigits_25
    exact loopZ (Zh := (fun a_2 => Z X 0 p l e rm_X7_endOfDigits s m args below meth c 0 0 (MQ below (QI X 0 r M s.heap.size) args s 0 0 (AA X 0 s.heap.size)) 4 M 2 [(0, .ref (X.2.2 a0)), (2, .int a2), (3, .int a_2)] [])) (fun a_2 x hb hc hr => p_X7_endOfDigits_L2 S h_a0 hb hc (fun b hxe => by rw [hr b hxe]; exact hX)) FU _ hl
set_option maxRecDepth 100000 in
set_option maxHeartbeats 4000000 in
theorem p_X7_numberOf_L16 {X : Cx} {p : Program} {l : Launch} {e : Env} {s : State} {m : MethodId} {args : Array Value} {below : List Frame} {meth : Method} {c : Code} (S : SB X 0 p s m args meth c cX7_numberOf 5 (some .int) RX7) {M : Mm} {r : Int32} {v0 : Nat} {v2 : Int32} {v3 : Int32} {v4 : Int32} {x : (Int32 × Int32) ⊕ Int32} (h_v0 : OK 0 v0 30) (he : f_X7_numberOf_L16 M v0 v2 v3 v4 = some x) (hc : ∀ b, x = .inl b → Z X 0 p l e rm_X7_numberOf s m args below meth c 0 0 (MQ below (QI X 0 r M s.heap.size) args s 0 0 (AA X 0 s.heap.size)) 5 M 16 [(0, .ref (X.2.2 v0)), (2, .int v2), (3, .int b.1), (4, .int b.2)] []) (hx : ∀ b, x = .inr b → Z X 0 p l e rm_X7_numberOf s m args below meth c 0 0 (MQ below (QI X 0 r M s.heap.size) args s 0 0 (AA X 0 s.heap.size)) 5 M 43 [(3, .int b)] []) : Z X 0 p l e rm_X7_numberOf s m args below meth c 0 0 (MQ below (QI X 0 r M s.heap.size) args s 0 0 (AA X 0 s.heap.size)) 5 M 16 [(0, .ref (X.2.2 v0)), (2, .int v2), (3, .int v3), (4, .int v4)] [] := by
  unfold f_X7_numberOf_L16 at he
  refine z_iload S dX7_numberOf_16 3 rfl ?_
  refine z_iload_n S dX7_numberOf_18 rfl 1 rfl ?_
  refine z_icmp_ge (tgt := 43) S he dX7_numberOf_19 (by decide) (fun he => ?_) (fun he => ?_)
  · refine z_lv (ks := [2]) rfl ?_
    exact hx _ (Option.some.inj he).symm
  · refine z_iload_n S dX7_numberOf_22 rfl 2 rfl ?_
    refine z_bipush (v := 10) S dX7_numberOf_23 (by decide) ?_
    refine z_imul S dX7_numberOf_25 ?_
    refine z_aload_n S dX7_numberOf_26 rfl 0 rfl ?_
    refine z_iload S dX7_numberOf_27 3 rfl ?_
    obtain ⟨r1, h9, he⟩ := bnd he
    refine z_cNI (As := [.ref (X.2.2 v0), .int v4]) S cn_RX7_38 (K_X9_at h_v0 h9) ⟨rfl, rfl⟩ ⟨Nat.le_of_ble_eq_true rfl, Nat.le_of_ble_eq_true rfl⟩ ⟨Nat.le_refl _, Nat.le_refl _⟩ rfl rfl (Nat.le_of_ble_eq_true rfl) dX7_numberOf_29 ?_
    refine z_iadd S dX7_numberOf_32 ?_
    refine z_bipush (v := 48) S dX7_numberOf_33 (by decide) ?_
    refine z_isub S dX7_numberOf_35 ?_
    refine z_istore_n (lv' := [(0, .ref (X.2.2 v0)), (2, .int v2), (3, .int (((v3 * 10) + r1) - 48)), (4, .int v4)]) S [1, 2, 0, 3] dX7_numberOf_36 rfl (by decide) rfl ?_
    refine z_iinc (v := (v4 + 1)) (lv' := [(0, .ref (X.2.2 v0)), (2, .int v2), (3, .int (((v3 * 10) + r1) - 48)), (4, .int (v4 + 1))]) S [1, 2, 3, 0] 3 dX7_numberOf_37 rfl (by rfl) (by decide) rfl ?_
    refine z_goto (tgt := 16) S dX7_numberOf_40 (by decide) ?_
    refine z_lv (ks := [0, 1, 2, 3]) rfl ?_
    exact hc _ (Option.some.inj he).symm
set_option maxRecDepth 100000 in
set_option maxHeartbeats 4000000 in
theorem K_X7_numberOf {X : Cx} {l : Launch} {M : Mm} {a0 : Nat} {a1 : Int32} {a2 : Int32} {r : Int32} (h_a0 : OK 0 a0 30) (he : f_X7_numberOf M a0 a1 a2 = some r) : KI X 0 l yX7_numberOf (wz yX7_numberOf cX7_numberOf 5 (some .int)) rm_X7_numberOf [.ref (X.2.2 a0), .int a1, .int a2] M r M := by
  intro sz
  refine K_of (Qc := (fun sz => QI X 0 r M sz)) (own := RX7) (lv0 := [(0, .ref (X.2.2 a0)), (1, .int a1), (2, .int a2)]) (by decide +kernel) rfl (Nat.le_of_ble_eq_true rfl) rfl (fun p e s m args below meth c S => ?_) sz
  · unfold f_X7_numberOf at he
    refine z_iload_n S dX7_numberOf_0 rfl 2 rfl ?_
    refine z_iload_n S dX7_numberOf_1 rfl 1 rfl ?_
    refine z_isub S dX7_numberOf_2 ?_
    refine z_iconst (v := 3) S dX7_numberOf_3 (by decide) ?_
    refine z_icmp_le (tgt := 11) S he dX7_numberOf_4 (by decide) (fun he => ?_) (fun he => ?_)
    · refine z_iconst (v := 0) S dX7_numberOf_11 (by decide) ?_
      refine z_istore_n (lv' := [(0, .ref (X.2.2 a0)), (1, .int a1), (2, .int a2), (3, .int 0)]) S [1, 2, 3, 0] dX7_numberOf_12 rfl (by decide) rfl ?_
      refine z_iload_n S dX7_numberOf_13 rfl 1 rfl ?_
      refine z_istore (lv' := [(0, .ref (X.2.2 a0)), (2, .int a2), (3, .int 0), (4, .int a1)]) S [1, 3, 4, 0] dX7_numberOf_14 (by decide) rfl ?_
      obtain ⟨e_2, hl, he⟩ := bnd he
      have hX : Z X 0 p l e rm_X7_numberOf s m args below meth c 0 0 (MQ below (QI X 0 r M s.heap.size) args s 0 0 (AA X 0 s.heap.size)) 5 M 43 [(3, .int e_2)] [] := by
        refine z_iload_n S dX7_numberOf_43 rfl 0 rfl ?_
        exact z_iret S (⟨Option.some.inj he, rfl⟩) dX7_numberOf_44
      exact loopZ (Zh := (fun a_2 => Z X 0 p l e rm_X7_numberOf s m args below meth c 0 0 (MQ below (QI X 0 r M s.heap.size) args s 0 0 (AA X 0 s.heap.size)) 5 M 16 [(0, .ref (X.2.2 a0)), (2, .int a2), (3, .int a_2.1), (4, .int a_2.2)] [])) (fun a_2 x hb hc hr => p_X7_numberOf_L16 S h_a0 hb hc (fun b hxe => by rw [hr b hxe]; exact hX)) FU _ hl
    · refine z_sipush (v := 1000) S dX7_numberOf_7 (by decide) ?_
      exact z_iret S (⟨Option.some.inj he, rfl⟩) dX7_numberOf_10
set_option maxRecDepth 100000 in
set_option maxHeartbeats 4000000 in
theorem p_X7_next_J23 {X : Cx} {p : Program} {l : Launch} {e : Env} {s : State} {m : MethodId} {args : Array Value} {below : List Frame} {meth : Method} {c : Code} (S : SB X 0 p s m args meth c cX7_next 1 none RX7) {M : Mm} {N : Mm} {v0 : Nat} (h_v0 : OK 0 v0 7) (he : f_X7_next_J23 M v0 = some N) : Z X 0 p l e rm_X7_next s m args below meth c 0 0 (MQ below (QV X 0 N s.heap.size) args s 0 0 (AA X 0 s.heap.size)) 1 M 23 [(0, .ref (X.2.2 v0))] [] := by
  unfold f_X7_next_J23 at he
  refine z_aload_n S dX7_next_23 rfl 0 rfl ?_
  refine z_getI S fo_RX7_79 rfl h_v0 dX7_next_24 ?_
  refine z_if_lt (tgt := 93) S he dX7_next_27 (by decide) (fun he => ?_) (fun he => ?_)
  · exact z_vret S (Option.some.inj he) dX7_next_93
  · refine z_aload_n S dX7_next_30 rfl 0 rfl ?_
    refine z_getI S fo_RX7_79 rfl h_v0 dX7_next_31 ?_
    refine z_aload_n S dX7_next_34 rfl 0 rfl ?_
    refine z_getF (j := (v0 + 1)) S fo_RX7_11 1 rfl rfl h_v0 dX7_next_35 ?_
    refine z_alen (v := 401) S (okf7_1 h_v0).1 (cel_w (okf7_1 h_v0).1.2.2) rfl (okf7_1 h_v0).2 rfl dX7_next_38 ?_
    refine z_icmp_ge (tgt := 93) S he dX7_next_39 (by decide) (fun he => ?_) (fun he => ?_)
    · exact z_vret S (Option.some.inj he) dX7_next_93
    · refine z_aload_n S dX7_next_42 rfl 0 rfl ?_
      refine z_getF (j := (v0 + 1)) S fo_RX7_11 1 rfl rfl h_v0 dX7_next_43 ?_
      refine z_aload_n S dX7_next_46 rfl 0 rfl ?_
      refine z_getI S fo_RX7_79 rfl h_v0 dX7_next_47 ?_
      refine z_aldN S (okf7_1 h_v0).1 (okf7_1 h_v0).2 he dX7_next_50 (fun he => ?_)
      refine z_ifnull (tgt := 93) S he dX7_next_51 (by decide) (fun he => ?_) (fun he => ?_)
      · exact z_vret S (Option.some.inj he) dX7_next_93
      · refine z_aload_n S dX7_next_54 rfl 0 rfl ?_
        refine z_aload_n S dX7_next_55 rfl 0 rfl ?_
        refine z_getF (j := (v0 + 1)) S fo_RX7_11 1 rfl rfl h_v0 dX7_next_56 ?_
        refine z_aload_n S dX7_next_59 rfl 0 rfl ?_
        refine z_getI S fo_RX7_79 rfl h_v0 dX7_next_60 ?_
        refine z_aldN S (okf7_1 h_v0).1 (okf7_1 h_v0).2 he dX7_next_63 (fun he => ?_)
        refine z_putN S fo_RX7_28p rfl h_v0  he dX7_next_64 (fun M1 he => ?_)
        refine z_aload_n S dX7_next_67 rfl 0 rfl ?_
        refine z_aload_n S dX7_next_68 rfl 0 rfl ?_
        refine z_getF (j := (v0 + 2)) S fo_RX7_17 2 rfl rfl h_v0 dX7_next_69 ?_
        refine z_aload_n S dX7_next_72 rfl 0 rfl ?_
        refine z_getI S fo_RX7_79 rfl h_v0 dX7_next_73 ?_
        refine z_iald S (okf7_2 h_v0).1 (okf7_2 h_v0).2 he dX7_next_76 (fun he => ?_)
        refine z_putIb S fo_RX7_113p rfl h_v0 rfl rfl he dX7_next_77 (fun M2 he => ?_)
        refine z_aload_n S dX7_next_80 rfl 0 rfl ?_
        refine z_aload_n S dX7_next_81 rfl 0 rfl ?_
        refine z_getF (j := (v0 + 3)) S fo_RX7_21 3 rfl rfl h_v0 dX7_next_82 ?_
        refine z_aload_n S dX7_next_85 rfl 0 rfl ?_
        refine z_getI S fo_RX7_79 rfl h_v0 dX7_next_86 ?_
        refine z_iald S (okf7_3 h_v0).1 (okf7_3 h_v0).2 he dX7_next_89 (fun he => ?_)
        refine z_putIb S fo_RX7_116p rfl h_v0 rfl rfl he dX7_next_90 (fun M3 he => ?_)
        exact z_vret S (Option.some.inj he) dX7_next_93
set_option maxRecDepth 100000 in
set_option maxHeartbeats 4000000 in
theorem K_X7_next {X : Cx} {l : Launch} {M : Mm} {a0 : Nat} {N : Mm} (h_a0 : OK 0 a0 7) (he : f_X7_next M a0 = some N) : KV X 0 l yX7_next (wz yX7_next cX7_next 1 none) rm_X7_next [.ref (X.2.2 a0)] M N := by
  intro sz
  refine K_of (Qc := (fun sz => QV X 0 N sz)) (own := RX7) (lv0 := [(0, .ref (X.2.2 a0))]) (by decide +kernel) rfl (Nat.le_of_ble_eq_true rfl) rfl (fun p e s m args below meth c S => ?_) sz
  · unfold f_X7_next at he
    refine z_aload_n S dX7_next_0 rfl 0 rfl ?_
    refine z_getI S fo_RX7_79 rfl h_a0 dX7_next_1 ?_
    refine z_aload_n S dX7_next_4 rfl 0 rfl ?_
    refine z_getI S fo_RX7_35 rfl h_a0 dX7_next_5 ?_
    refine z_iconst (v := 1) S dX7_next_8 (by decide) ?_
    refine z_isub S dX7_next_9 ?_
    refine z_icmp_ge (tgt := 23) S he dX7_next_10 (by decide) (fun he => ?_) (fun he => ?_)
    · exact p_X7_next_J23 S h_a0 he
    · refine z_aload_n S dX7_next_13 rfl 0 rfl ?_
      refine z_dup S rfl dX7_next_14 ?_
      refine z_getI S fo_RX7_79 rfl h_a0 dX7_next_15 ?_
      refine z_iconst (v := 1) S dX7_next_18 (by decide) ?_
      refine z_iadd S dX7_next_19 ?_
      refine z_putIb S fo_RX7_79p rfl h_a0 rfl rfl he dX7_next_20 (fun M4 he => ?_)
      exact p_X7_next_J23 S h_a0 he
set_option maxRecDepth 100000 in
set_option maxHeartbeats 4000000 in
theorem p_X7_skip_J13 {X : Cx} {p : Program} {l : Launch} {e : Env} {s : State} {m : MethodId} {args : Array Value} {below : List Frame} {meth : Method} {c : Code} (S : SB X 0 p s m args meth c cX7_skip 3 (some .boolean) RX7) {M : Mm} {N : Mm} {r : Bool} {v0 : Nat} {t0 : Int32} (h_v0 : OK 0 v0 7) (he : f_X7_skip_J13 M v0 t0 = some (r, N)) : Z X 0 p l e rm_X7_skip s m args below meth c 0 0 (MQ below (QI X 0 (bI r) N s.heap.size) args s 0 0 (AA X 0 s.heap.size)) 3 M 13 [(0, .ref (X.2.2 v0))] [.int t0] := by
  unfold f_X7_skip_J13 at he
  refine z_istore_n (lv' := [(0, .ref (X.2.2 v0)), (2, .int t0)]) S [1, 0] dX7_skip_13 rfl (by decide) rfl ?_
  refine z_iload_n S dX7_skip_14 rfl 1 rfl ?_
  refine z_if_eq (tgt := 22) S he dX7_skip_15 (by decide) (fun he => ?_) (fun he => ?_)
  · refine z_iload_n S dX7_skip_22 rfl 1 rfl ?_
    rcases z_sw he with ⟨hk9, he⟩ | ⟨hk9, he⟩
    · exact z_zretv (b := false) S hk9 (Prod.mk.inj (Option.some.inj he)) dX7_skip_23
    · obtain ⟨hk8, he⟩ := grd he
      exact z_zretv (b := true) S hk8 (Prod.mk.inj (Option.some.inj he)) dX7_skip_23
  · refine z_aload_n S dX7_skip_18 rfl 0 rfl ?_
    obtain ⟨M2, h9, he⟩ := bnd he
    refine z_cVV (As := []) S cv_RX7_82 (K_X7_next h_v0 h9) h_v0 (by decide) (q := (RX7, TX7, 9)) rfl rfl ⟨rfl, rfl⟩ ⟨Nat.le_of_ble_eq_true rfl, Nat.le_of_ble_eq_true rfl⟩ ⟨Nat.le_refl _, Nat.le_refl _⟩ rfl rfl (Nat.le_of_ble_eq_true rfl) dX7_skip_19 ?_
    refine z_iload_n S dX7_skip_22 rfl 1 rfl ?_
    rcases z_sw he with ⟨hk9, he⟩ | ⟨hk9, he⟩
    · exact z_zretv (b := false) S hk9 (Prod.mk.inj (Option.some.inj he)) dX7_skip_23
    · obtain ⟨hk8, he⟩ := grd he
      exact z_zretv (b := true) S hk8 (Prod.mk.inj (Option.some.inj he)) dX7_skip_23
set_option maxRecDepth 100000 in
set_option maxHeartbeats 4000000 in
theorem K_X7_skip {X : Cx} {l : Launch} {M : Mm} {a0 : Nat} {a1 : Nat} {r : Bool} {N : Mm} (h_a0 : OK 0 a0 7) (h_a1 : isW a1 = true) (he : f_X7_skip M a0 a1 = some (r, N)) : KI X 0 l yX7_skip (wz yX7_skip cX7_skip 3 (some .boolean)) rm_X7_skip [.ref (X.2.2 a0), .ref (X.2.2 a1)] M (bI r) N := by
  intro sz
  refine K_of (Qc := (fun sz => QI X 0 (bI r) N sz)) (own := RX7) (lv0 := [(0, .ref (X.2.2 a0)), (1, .ref (X.2.2 a1))]) (by decide +kernel) rfl (Nat.le_of_ble_eq_true rfl) rfl (fun p e s m args below meth c S => ?_) sz
  · unfold f_X7_skip at he
    refine z_aload_n S dX7_skip_0 rfl 0 rfl ?_
    refine z_getWd S fo_RX7_28 rfl h_a0 he dX7_skip_1 (fun q1 hq1 he => ?_)
    refine z_aload_n S dX7_skip_4 rfl 1 rfl ?_
    refine z_acmp_ne (tgt := 12) S hq1 h_a1 he dX7_skip_5 (by decide) (fun he => ?_) (fun he => ?_)
    · refine z_iconst (v := 0) S dX7_skip_12 (by decide) ?_
      refine z_lv (ks := [0]) rfl ?_
      exact p_X7_skip_J13 S h_a0 he
    · refine z_iconst (v := 1) S dX7_skip_8 (by decide) ?_
      refine z_goto (tgt := 13) S dX7_skip_9 (by decide) ?_
      refine z_lv (ks := [0]) rfl ?_
      exact p_X7_skip_J13 S h_a0 he
set_option maxRecDepth 100000 in
set_option maxHeartbeats 4000000 in
theorem K_X7_refuse {X : Cx} {l : Launch} {M : Mm} {a0 : Nat} {r : Bool} {N : Mm} (h_a0 : OK 0 a0 7) (he : f_X7_refuse M a0 = (r, N)) : KI X 0 l yX7_refuse (wz yX7_refuse cX7_refuse 1 (some .boolean)) rm_X7_refuse [.ref (X.2.2 a0)] M (bI r) N := by
  intro sz
  refine K_of (Qc := (fun sz => QI X 0 (bI r) N sz)) (own := RX7) (lv0 := [(0, .ref (X.2.2 a0))]) (by decide +kernel) rfl (Nat.le_of_ble_eq_true rfl) rfl (fun p e s m args below meth c S => ?_) sz
  · unfold f_X7_refuse at he
    refine z_aload_n S dX7_refuse_0 rfl 0 rfl ?_
    refine z_aload_n S dX7_refuse_1 rfl 0 rfl ?_
    refine z_getI S fo_RX7_113 rfl h_a0 dX7_refuse_2 ?_
    refine z_putI S fo_RX7_31p rfl h_a0 rfl rfl dX7_refuse_5 ?_
    refine z_iconst (v := 0) S dX7_refuse_8 (by decide) ?_
    exact z_zret0 S (Prod.mk.inj (he)) dX7_refuse_9
set_option maxRecDepth 100000 in
set_option maxHeartbeats 4000000 in
theorem K_X7_numberWithin {X : Cx} {l : Launch} {M : Mm} {a0 : Nat} {a1 : Int32} {a2 : Int32} {r : Int32} (h_a0 : OK 0 a0 7) (he : f_X7_numberWithin M a0 a1 a2 = some r) : KI X 0 l yX7_numberWithin (wz yX7_numberWithin cX7_numberWithin 3 (some .int)) rm_X7_numberWithin [.ref (X.2.2 a0), .int a1, .int a2] M r M := by
  intro sz
  refine K_of (Qc := (fun sz => QI X 0 r M sz)) (own := RX7) (lv0 := [(0, .ref (X.2.2 a0)), (1, .int a1), (2, .int a2)]) (by decide +kernel) rfl (Nat.le_of_ble_eq_true rfl) rfl (fun p e s m args below meth c S => ?_) sz
  · unfold f_X7_numberWithin at he
    refine z_aload_n S dX7_numberWithin_0 rfl 0 rfl ?_
    refine z_getWd S fo_RX7_28 rfl h_a0 he dX7_numberWithin_1 (fun q1 hq1 he => ?_)
    refine z_getW (i := 28) (j := 328) S (by decide) rfl rfl gw_RX7_67 dX7_numberWithin_4 ?_
    refine z_acmp_ne (tgt := 33) S hq1 (isW_add (i := 28) (by decide)) he dX7_numberWithin_7 (by decide) (fun he => ?_) (fun he => ?_)
    · refine z_iconst (v := (-1)) S dX7_numberWithin_33 (by decide) ?_
      exact z_iret S (⟨Option.some.inj he, rfl⟩) dX7_numberWithin_34
    · refine z_aload_n S dX7_numberWithin_10 rfl 0 rfl ?_
      refine z_getI S fo_RX7_116 rfl h_a0 dX7_numberWithin_11 ?_
      refine z_iload_n S dX7_numberWithin_14 rfl 1 rfl ?_
      refine z_icmp_lt (tgt := 33) S he dX7_numberWithin_15 (by decide) (fun he => ?_) (fun he => ?_)
      · refine z_iconst (v := (-1)) S dX7_numberWithin_33 (by decide) ?_
        exact z_iret S (⟨Option.some.inj he, rfl⟩) dX7_numberWithin_34
      · refine z_aload_n S dX7_numberWithin_18 rfl 0 rfl ?_
        refine z_getI S fo_RX7_116 rfl h_a0 dX7_numberWithin_19 ?_
        refine z_iload_n S dX7_numberWithin_22 rfl 2 rfl ?_
        refine z_icmp_gt (tgt := 33) S he dX7_numberWithin_23 (by decide) (fun he => ?_) (fun he => ?_)
        · refine z_iconst (v := (-1)) S dX7_numberWithin_33 (by decide) ?_
          exact z_iret S (⟨Option.some.inj he, rfl⟩) dX7_numberWithin_34
        · refine z_aload_n S dX7_numberWithin_26 rfl 0 rfl ?_
          refine z_getI S fo_RX7_116 rfl h_a0 dX7_numberWithin_27 ?_
          refine z_goto (tgt := 34) S dX7_numberWithin_30 (by decide) ?_
          exact z_iret S (⟨Option.some.inj he, rfl⟩) dX7_numberWithin_34
set_option maxRecDepth 100000 in
set_option maxHeartbeats 4000000 in
theorem p_X4_thingAt_L2 {X : Cx} {p : Program} {l : Launch} {e : Env} {s : State} {m : MethodId} {args : Array Value} {below : List Frame} {meth : Method} {c : Code} (S : SB X 0 p s m args meth c cX4_thingAt 3 (some .int) RX4) {M : Mm} {r : Int32} {v0 : Nat} {v1 : Int32} {v2 : Int32} {x : Int32 ⊕ ((Int32) ⊕ Unit)} (h_v0 : OK 0 v0 4) (he : f_X4_thingAt_L2 M v0 v1 v2 = some x) (hc : ∀ b, x = .inl b → Z X 0 p l e rm_X4_thingAt s m args below meth c 0 0 (MQ below (QI X 0 r M s.heap.size) args s 0 0 (AA X 0 s.heap.size)) 3 M 2 [(0, .ref (X.2.2 v0)), (1, .int v1), (2, .int b)] []) (hx : ∀ b, x = .inr (.inr b) → Z X 0 p l e rm_X4_thingAt s m args below meth c 0 0 (MQ below (QI X 0 r M s.heap.size) args s 0 0 (AA X 0 s.heap.size)) 3 M 34 [] []) (hr : ∀ v, x = .inr (.inl v) → v = r) : Z X 0 p l e rm_X4_thingAt s m args below meth c 0 0 (MQ below (QI X 0 r M s.heap.size) args s 0 0 (AA X 0 s.heap.size)) 3 M 2 [(0, .ref (X.2.2 v0)), (1, .int v1), (2, .int v2)] [] := by
  unfold f_X4_thingAt_L2 at he
  refine z_iload_n S dX4_thingAt_2 rfl 2 rfl ?_
  refine z_aload_n S dX4_thingAt_3 rfl 0 rfl ?_
  refine z_getI S fo_RX4_34 rfl h_v0 dX4_thingAt_4 ?_
  refine z_icmp_ge (tgt := 34) S he dX4_thingAt_7 (by decide) (fun he => ?_) (fun he => ?_)
  · refine z_lv (ks := []) rfl ?_
    exact hx _ (Option.some.inj he).symm
  · refine z_aload_n S dX4_thingAt_10 rfl 0 rfl ?_
    refine z_getF (j := (v0 + 1)) S fo_RX4_9 1 rfl rfl h_v0 dX4_thingAt_11 ?_
    refine z_iload_n S dX4_thingAt_14 rfl 2 rfl ?_
    refine z_iconst (v := 5) S dX4_thingAt_15 (by decide) ?_
    refine z_imul S dX4_thingAt_16 ?_
    refine z_iconst (v := 0) S dX4_thingAt_17 (by decide) ?_
    refine z_iadd S dX4_thingAt_18 ?_
    obtain ⟨r1, h9, he⟩ := bnd he
    refine z_cNI (As := [.ref (X.2.2 (v0 + 1)), .int ((v2 * 5) + 0)]) S cn_RX4_49 (K_X9_at (okf4_1 h_v0).1 h9) ⟨rfl, rfl⟩ ⟨Nat.le_of_ble_eq_true rfl, Nat.le_of_ble_eq_true rfl⟩ ⟨Nat.le_refl _, Nat.le_refl _⟩ rfl rfl (Nat.le_of_ble_eq_true rfl) dX4_thingAt_19 ?_
    refine z_iload_n S dX4_thingAt_22 rfl 1 rfl ?_
    refine z_icmp_ne (tgt := 28) S he dX4_thingAt_23 (by decide) (fun he => ?_) (fun he => ?_)
    · refine z_iinc (v := (v2 + 1)) (lv' := [(0, .ref (X.2.2 v0)), (1, .int v1), (2, .int (v2 + 1))]) S [1, 2, 0] 2 dX4_thingAt_28 rfl (by rfl) (by decide) rfl ?_
      refine z_goto (tgt := 2) S dX4_thingAt_31 (by decide) ?_
      refine z_lv (ks := [0, 1, 2]) rfl ?_
      exact hc _ (Option.some.inj he).symm
    · refine z_iload_n S dX4_thingAt_26 rfl 2 rfl ?_
      exact z_iret S (⟨hr _ (Option.some.inj he).symm, rfl⟩) dX4_thingAt_27
set_option maxRecDepth 100000 in
set_option maxHeartbeats 4000000 in
theorem K_X4_thingAt {X : Cx} {l : Launch} {M : Mm} {a0 : Nat} {a1 : Int32} {r : Int32} (h_a0 : OK 0 a0 4) (he : f_X4_thingAt M a0 a1 = some r) : KI X 0 l yX4_thingAt (wz yX4_thingAt cX4_thingAt 3 (some .int)) rm_X4_thingAt [.ref (X.2.2 a0), .int a1] M r M := by
  intro sz
  refine K_of (Qc := (fun sz => QI X 0 r M sz)) (own := RX4) (lv0 := [(0, .ref (X.2.2 a0)), (1, .int a1)]) (by decide +kernel) rfl (Nat.le_of_ble_eq_true rfl) rfl (fun p e s m args below meth c S => ?_) sz
  · unfold f_X4_thingAt at he
    refine z_iconst (v := 0) S dX4_thingAt_0 (by decide) ?_
    refine z_istore_n (lv' := [(0, .ref (X.2.2 a0)), (1, .int a1), (2, .int 0)]) S [1, 2, 0] dX4_thingAt_1 rfl (by decide) rfl ?_
    obtain ⟨r9, hl, hr1, hr2⟩ := bndS he
    have hX : ∀ e_2, r9 = .inr e_2 → Z X 0 p l e rm_X4_thingAt s m args below meth c 0 0 (MQ below (QI X 0 r M s.heap.size) args s 0 0 (AA X 0 s.heap.size)) 3 M 34 [] [] := by
      intro e_2 hre
      have he := hr2 e_2 hre
      refine z_iconst (v := (-1)) S dX4_thingAt_34 (by decide) ?_
      exact z_iret S (⟨Option.some.inj he, rfl⟩) dX4_thingAt_35
    exact loopZ (Zh := (fun a_2 => Z X 0 p l e rm_X4_thingAt s m args below meth c 0 0 (MQ below (QI X 0 r M s.heap.size) args s 0 0 (AA X 0 s.heap.size)) 3 M 2 [(0, .ref (X.2.2 a0)), (1, .int a1), (2, .int a_2)] [])) (fun a_2 x hb hc hr9 => p_X4_thingAt_L2 S h_a0 hb hc (fun b hxe => hX b (hr9 _ hxe).symm) (fun v hxv => Option.some.inj (hr1 v (hr9 _ hxv).symm))) FU _ hl
set_option maxRecDepth 100000 in
set_option maxHeartbeats 4000000 in
theorem p_X1_readCell_J55 {X : Cx} {p : Program} {l : Launch} {e : Env} {s : State} {m : MethodId} {args : Array Value} {below : List Frame} {meth : Method} {c : Code} (S : SB X 0 p s m args meth c cX1_readCell 2 (some .boolean) RX1) {M : Mm} {N : Mm} {r : Bool}  (he : f_X1_readCell_J55 M  = some (r, N)) : Z X 0 p l e rm_X1_readCell s m args below meth c 0 0 (MQ below (QI X 0 (bI r) N s.heap.size) args s 0 0 (AA X 0 s.heap.size)) 2 M 55 [(0, .ref (X.2.2 97))] [] := by
  unfold f_X1_readCell_J55 at he
  refine z_aload_n S dX1_readCell_55 rfl 0 rfl ?_
  refine z_getF (j := 98) S fo_RX1_12 1 rfl rfl ok_97 dX1_readCell_56 ?_
  obtain ⟨⟨r5, M6⟩, h9, he⟩ := bnd he
  dsimp only at he
  refine z_cVI (As := []) S cv_RX1_42 (K_X7_refuse ok_98 (Option.some.inj h9)) ok_98 (by decide) (q := (RX7, TX7, 9)) rfl rfl ⟨rfl, rfl⟩ ⟨Nat.le_of_ble_eq_true rfl, Nat.le_of_ble_eq_true rfl⟩ ⟨Nat.le_refl _, Nat.le_refl _⟩ rfl rfl (Nat.le_of_ble_eq_true rfl) dX1_readCell_59 ?_
  exact z_zret S (Prod.mk.inj (Option.some.inj he)) dX1_readCell_62
set_option maxRecDepth 100000 in
set_option maxHeartbeats 4000000 in
theorem K_X1_readCell {X : Cx} {l : Launch} {M : Mm} {a1 : Nat} {r : Bool} {N : Mm} (h_a1 : OK 0 a1 4) (he : f_X1_readCell M a1 = some (r, N)) : KI X 0 l yX1_readCell (wz yX1_readCell cX1_readCell 2 (some .boolean)) rm_X1_readCell [.ref (X.2.2 97), .ref (X.2.2 a1)] M (bI r) N := by
  intro sz
  refine K_of (Qc := (fun sz => QI X 0 (bI r) N sz)) (own := RX1) (lv0 := [(0, .ref (X.2.2 97)), (1, .ref (X.2.2 a1))]) (by decide +kernel) rfl (Nat.le_of_ble_eq_true rfl) rfl (fun p e s m args below meth c S => ?_) sz
  · unfold f_X1_readCell at he
    refine z_aload_n S dX1_readCell_0 rfl 0 rfl ?_
    refine z_getF (j := 98) S fo_RX1_12 1 rfl rfl ok_97 dX1_readCell_1 ?_
    refine z_getW (i := 1) (j := 301) S (by decide) rfl rfl gw_RX1_102 dX1_readCell_4 ?_
    obtain ⟨⟨r1, M2⟩, h9, he⟩ := bnd he
    dsimp only at he
    refine z_cVI (As := [.ref (X.2.2 301)]) S cv_RX1_38 (K_X7_skip ok_98 (isW_add (i := 1) (by decide)) h9) ok_98 (by decide) (q := (RX7, TX7, 9)) rfl rfl ⟨rfl, rfl⟩ ⟨Nat.le_of_ble_eq_true rfl, Nat.le_of_ble_eq_true rfl⟩ ⟨Nat.le_refl _, Nat.le_refl _⟩ rfl rfl (Nat.le_of_ble_eq_true rfl) dX1_readCell_7 ?_
    refine z_ifb_ne (tgt := 21) S he dX1_readCell_10 (by decide) (fun he => ?_) (fun he => ?_)
    · refine z_aload_n S dX1_readCell_21 rfl 0 rfl ?_
      refine z_aload_n S dX1_readCell_22 rfl 0 rfl ?_
      refine z_getF (j := 98) S fo_RX1_12 1 rfl rfl ok_97 dX1_readCell_23 ?_
      refine z_iconst (v := 0) S dX1_readCell_26 (by decide) ?_
      refine z_bipush (v := 19) S dX1_readCell_27 (by decide) ?_
      obtain ⟨r3, h9, he⟩ := bnd he
      refine z_cVI (As := [.int 0, .int 19]) S cv_RX1_105 (K_X7_numberWithin ok_98 h9) ok_98 (by decide) (q := (RX7, TX7, 9)) rfl rfl ⟨rfl, rfl⟩ ⟨Nat.le_of_ble_eq_true rfl, Nat.le_of_ble_eq_true rfl⟩ ⟨Nat.le_refl _, Nat.le_refl _⟩ rfl rfl (Nat.le_of_ble_eq_true rfl) dX1_readCell_29 ?_
      refine z_putIb S fo_RX1_85p rfl ok_97 rfl rfl he dX1_readCell_32 (fun M4 he => ?_)
      refine z_aload_n S dX1_readCell_35 rfl 0 rfl ?_
      refine z_getI S fo_RX1_85 rfl ok_97 dX1_readCell_36 ?_
      refine z_iconst (v := (-1)) S dX1_readCell_39 (by decide) ?_
      refine z_icmp_eq (tgt := 55) S he dX1_readCell_40 (by decide) (fun he => ?_) (fun he => ?_)
      · refine z_lv (ks := [0]) rfl ?_
        exact p_X1_readCell_J55 S  he
      · refine z_aload_n S dX1_readCell_43 rfl 1 rfl ?_
        refine z_aload_n S dX1_readCell_44 rfl 0 rfl ?_
        refine z_getI S fo_RX1_85 rfl ok_97 dX1_readCell_45 ?_
        obtain ⟨r7, h9, he⟩ := bnd he
        refine z_cVI (As := [.int (gI M4 97 1)]) S cv_RX1_109 (K_X4_thingAt h_a1 h9) h_a1 (by decide) (q := (RX4, TX4, 10)) rfl rfl ⟨rfl, rfl⟩ ⟨Nat.le_of_ble_eq_true rfl, Nat.le_of_ble_eq_true rfl⟩ ⟨Nat.le_refl _, Nat.le_refl _⟩ rfl rfl (Nat.le_of_ble_eq_true rfl) dX1_readCell_48 ?_
        refine z_iconst (v := (-1)) S dX1_readCell_51 (by decide) ?_
        refine z_icmp_eq (tgt := 63) S he dX1_readCell_52 (by decide) (fun he => ?_) (fun he => ?_)
        · refine z_aload_n S dX1_readCell_63 rfl 0 rfl ?_
          refine z_getF (j := 98) S fo_RX1_12 1 rfl rfl ok_97 dX1_readCell_64 ?_
          obtain ⟨M8, h9, he⟩ := bnd he
          refine z_cVV (As := []) S cv_RX1_79 (K_X7_next ok_98 h9) ok_98 (by decide) (q := (RX7, TX7, 9)) rfl rfl ⟨rfl, rfl⟩ ⟨Nat.le_of_ble_eq_true rfl, Nat.le_of_ble_eq_true rfl⟩ ⟨Nat.le_refl _, Nat.le_refl _⟩ rfl rfl (Nat.le_of_ble_eq_true rfl) dX1_readCell_67 ?_
          refine z_iconst (v := 1) S dX1_readCell_70 (by decide) ?_
          exact z_zret1 S (Prod.mk.inj (Option.some.inj he)) dX1_readCell_71
        · refine z_lv (ks := [0]) rfl ?_
          exact p_X1_readCell_J55 S  he
    · refine z_aload_n S dX1_readCell_13 rfl 0 rfl ?_
      refine z_getF (j := 98) S fo_RX1_12 1 rfl rfl ok_97 dX1_readCell_14 ?_
      obtain ⟨⟨r9, M10⟩, h9, he⟩ := bnd he
      dsimp only at he
      refine z_cVI (As := []) S cv_RX1_42 (K_X7_refuse ok_98 (Option.some.inj h9)) ok_98 (by decide) (q := (RX7, TX7, 9)) rfl rfl ⟨rfl, rfl⟩ ⟨Nat.le_of_ble_eq_true rfl, Nat.le_of_ble_eq_true rfl⟩ ⟨Nat.le_refl _, Nat.le_refl _⟩ rfl rfl (Nat.le_of_ble_eq_true rfl) dX1_readCell_17 ?_
      exact z_zret S (Prod.mk.inj (Option.some.inj he)) dX1_readCell_20
set_option maxRecDepth 100000 in
set_option maxHeartbeats 4000000 in
theorem K_X1_readNamed {X : Cx} {l : Launch} {M : Mm} {a1 : Nat} {a2 : Int32} {a3 : Int32} {r : Bool} {N : Mm} (h_a1 : isW a1 = true) (he : f_X1_readNamed M a1 a2 a3 = some (r, N)) : KI X 0 l yX1_readNamed (wz yX1_readNamed cX1_readNamed 4 (some .boolean)) rm_X1_readNamed [.ref (X.2.2 97), .ref (X.2.2 a1), .int a2, .int a3] M (bI r) N := by
  intro sz
  refine K_of (Qc := (fun sz => QI X 0 (bI r) N sz)) (own := RX1) (lv0 := [(0, .ref (X.2.2 97)), (1, .ref (X.2.2 a1)), (2, .int a2), (3, .int a3)]) (by decide +kernel) rfl (Nat.le_of_ble_eq_true rfl) rfl (fun p e s m args below meth c S => ?_) sz
  · unfold f_X1_readNamed at he
    refine z_aload_n S dX1_readNamed_0 rfl 0 rfl ?_
    refine z_getF (j := 98) S fo_RX1_12 1 rfl rfl ok_97 dX1_readNamed_1 ?_
    refine z_aload_n S dX1_readNamed_4 rfl 1 rfl ?_
    obtain ⟨⟨r1, M2⟩, h9, he⟩ := bnd he
    dsimp only at he
    refine z_cVI (As := [.ref (X.2.2 a1)]) S cv_RX1_38 (K_X7_skip ok_98 h_a1 h9) ok_98 (by decide) (q := (RX7, TX7, 9)) rfl rfl ⟨rfl, rfl⟩ ⟨Nat.le_of_ble_eq_true rfl, Nat.le_of_ble_eq_true rfl⟩ ⟨Nat.le_refl _, Nat.le_refl _⟩ rfl rfl (Nat.le_of_ble_eq_true rfl) dX1_readNamed_5 ?_
    refine z_ifb_ne (tgt := 19) S he dX1_readNamed_8 (by decide) (fun he => ?_) (fun he => ?_)
    · refine z_aload_n S dX1_readNamed_19 rfl 0 rfl ?_
      refine z_aload_n S dX1_readNamed_20 rfl 0 rfl ?_
      refine z_getF (j := 98) S fo_RX1_12 1 rfl rfl ok_97 dX1_readNamed_21 ?_
      refine z_iload_n S dX1_readNamed_24 rfl 2 rfl ?_
      refine z_iload_n S dX1_readNamed_25 rfl 3 rfl ?_
      obtain ⟨r3, h9, he⟩ := bnd he
      refine z_cVI (As := [.int a2, .int a3]) S cv_RX1_105 (K_X7_numberWithin ok_98 h9) ok_98 (by decide) (q := (RX7, TX7, 9)) rfl rfl ⟨rfl, rfl⟩ ⟨Nat.le_of_ble_eq_true rfl, Nat.le_of_ble_eq_true rfl⟩ ⟨Nat.le_refl _, Nat.le_refl _⟩ rfl rfl (Nat.le_of_ble_eq_true rfl) dX1_readNamed_26 ?_
      refine z_putIb S fo_RX1_85p rfl ok_97 rfl rfl he dX1_readNamed_29 (fun M4 he => ?_)
      refine z_aload_n S dX1_readNamed_32 rfl 0 rfl ?_
      refine z_getI S fo_RX1_85 rfl ok_97 dX1_readNamed_33 ?_
      refine z_iconst (v := (-1)) S dX1_readNamed_36 (by decide) ?_
      refine z_icmp_ne (tgt := 48) S he dX1_readNamed_37 (by decide) (fun he => ?_) (fun he => ?_)
      · refine z_aload_n S dX1_readNamed_48 rfl 0 rfl ?_
        refine z_getF (j := 98) S fo_RX1_12 1 rfl rfl ok_97 dX1_readNamed_49 ?_
        obtain ⟨M5, h9, he⟩ := bnd he
        refine z_cVV (As := []) S cv_RX1_79 (K_X7_next ok_98 h9) ok_98 (by decide) (q := (RX7, TX7, 9)) rfl rfl ⟨rfl, rfl⟩ ⟨Nat.le_of_ble_eq_true rfl, Nat.le_of_ble_eq_true rfl⟩ ⟨Nat.le_refl _, Nat.le_refl _⟩ rfl rfl (Nat.le_of_ble_eq_true rfl) dX1_readNamed_52 ?_
        refine z_iconst (v := 1) S dX1_readNamed_55 (by decide) ?_
        exact z_zret1 S (Prod.mk.inj (Option.some.inj he)) dX1_readNamed_56
      · refine z_aload_n S dX1_readNamed_40 rfl 0 rfl ?_
        refine z_getF (j := 98) S fo_RX1_12 1 rfl rfl ok_97 dX1_readNamed_41 ?_
        obtain ⟨⟨r6, M7⟩, h9, he⟩ := bnd he
        dsimp only at he
        refine z_cVI (As := []) S cv_RX1_42 (K_X7_refuse ok_98 (Option.some.inj h9)) ok_98 (by decide) (q := (RX7, TX7, 9)) rfl rfl ⟨rfl, rfl⟩ ⟨Nat.le_of_ble_eq_true rfl, Nat.le_of_ble_eq_true rfl⟩ ⟨Nat.le_refl _, Nat.le_refl _⟩ rfl rfl (Nat.le_of_ble_eq_true rfl) dX1_readNamed_44 ?_
        exact z_zret S (Prod.mk.inj (Option.some.inj he)) dX1_readNamed_47
    · refine z_aload_n S dX1_readNamed_11 rfl 0 rfl ?_
      refine z_getF (j := 98) S fo_RX1_12 1 rfl rfl ok_97 dX1_readNamed_12 ?_
      obtain ⟨⟨r8, M9⟩, h9, he⟩ := bnd he
      dsimp only at he
      refine z_cVI (As := []) S cv_RX1_42 (K_X7_refuse ok_98 (Option.some.inj h9)) ok_98 (by decide) (q := (RX7, TX7, 9)) rfl rfl ⟨rfl, rfl⟩ ⟨Nat.le_of_ble_eq_true rfl, Nat.le_of_ble_eq_true rfl⟩ ⟨Nat.le_refl _, Nat.le_refl _⟩ rfl rfl (Nat.le_of_ble_eq_true rfl) dX1_readNamed_15 ?_
      exact z_zret S (Prod.mk.inj (Option.some.inj he)) dX1_readNamed_18
set_option maxRecDepth 100000 in
set_option maxHeartbeats 4000000 in
theorem K_X4_addThing {X : Cx} {l : Launch} {M : Mm} {a0 : Nat} {a1 : Int32} {a2 : Int32} {a3 : Int32} {N : Mm} (h_a0 : OK 0 a0 4) (he : f_X4_addThing M a0 a1 a2 a3 = some N) : KV X 0 l yX4_addThing (wz yX4_addThing cX4_addThing 5 none) rm_X4_addThing [.ref (X.2.2 a0), .int a1, .int a2, .int a3] M N := by
  intro sz
  refine K_of (Qc := (fun sz => QV X 0 N sz)) (own := RX4) (lv0 := [(0, .ref (X.2.2 a0)), (1, .int a1), (2, .int a2), (3, .int a3)]) (by decide +kernel) rfl (Nat.le_of_ble_eq_true rfl) rfl (fun p e s m args below meth c S => ?_) sz
  · unfold f_X4_addThing at he
    refine z_aload_n S dX4_addThing_0 rfl 0 rfl ?_
    refine z_getI S fo_RX4_34 rfl h_a0 dX4_addThing_1 ?_
    refine z_istore (lv' := [(0, .ref (X.2.2 a0)), (1, .int a1), (2, .int a2), (3, .int a3), (4, .int (gI M a0 3))]) S [1, 2, 3, 4, 0] dX4_addThing_4 (by decide) rfl ?_
    refine z_aload_n S dX4_addThing_6 rfl 0 rfl ?_
    refine z_dup S rfl dX4_addThing_7 ?_
    refine z_getI S fo_RX4_34 rfl h_a0 dX4_addThing_8 ?_
    refine z_iconst (v := 1) S dX4_addThing_11 (by decide) ?_
    refine z_iadd S dX4_addThing_12 ?_
    refine z_putIb S fo_RX4_34p rfl h_a0 rfl rfl he dX4_addThing_13 (fun M1 he => ?_)
    refine z_aload_n S dX4_addThing_16 rfl 0 rfl ?_
    refine z_iload S dX4_addThing_17 4 rfl ?_
    refine z_iconst (v := 0) S dX4_addThing_19 (by decide) ?_
    refine z_iload_n S dX4_addThing_20 rfl 1 rfl ?_
    obtain ⟨M2, h9, he⟩ := bnd he
    refine z_cVV (As := [.int (gI M a0 3), .int 0, .int a1]) S cv_RX4_61 (K_X4_setThing h_a0 h9) h_a0 (by decide) (q := (RX4, TX4, 10)) rfl rfl ⟨rfl, rfl⟩ ⟨Nat.le_of_ble_eq_true rfl, Nat.le_of_ble_eq_true rfl⟩ ⟨Nat.le_refl _, Nat.le_refl _⟩ rfl rfl (Nat.le_of_ble_eq_true rfl) dX4_addThing_21 ?_
    refine z_aload_n S dX4_addThing_24 rfl 0 rfl ?_
    refine z_iload S dX4_addThing_25 4 rfl ?_
    refine z_iconst (v := 1) S dX4_addThing_27 (by decide) ?_
    refine z_iload_n S dX4_addThing_28 rfl 2 rfl ?_
    obtain ⟨M3, h9, he⟩ := bnd he
    refine z_cVV (As := [.int (gI M a0 3), .int 1, .int a2]) S cv_RX4_61 (K_X4_setThing h_a0 h9) h_a0 (by decide) (q := (RX4, TX4, 10)) rfl rfl ⟨rfl, rfl⟩ ⟨Nat.le_of_ble_eq_true rfl, Nat.le_of_ble_eq_true rfl⟩ ⟨Nat.le_refl _, Nat.le_refl _⟩ rfl rfl (Nat.le_of_ble_eq_true rfl) dX4_addThing_29 ?_
    refine z_aload_n S dX4_addThing_32 rfl 0 rfl ?_
    refine z_iload S dX4_addThing_33 4 rfl ?_
    refine z_iconst (v := 2) S dX4_addThing_35 (by decide) ?_
    refine z_iload_n S dX4_addThing_36 rfl 3 rfl ?_
    obtain ⟨M4, h9, he⟩ := bnd he
    refine z_cVV (As := [.int (gI M a0 3), .int 2, .int a3]) S cv_RX4_61 (K_X4_setThing h_a0 h9) h_a0 (by decide) (q := (RX4, TX4, 10)) rfl rfl ⟨rfl, rfl⟩ ⟨Nat.le_of_ble_eq_true rfl, Nat.le_of_ble_eq_true rfl⟩ ⟨Nat.le_refl _, Nat.le_refl _⟩ rfl rfl (Nat.le_of_ble_eq_true rfl) dX4_addThing_37 ?_
    refine z_aload_n S dX4_addThing_40 rfl 0 rfl ?_
    refine z_iload S dX4_addThing_41 4 rfl ?_
    refine z_iconst (v := 3) S dX4_addThing_43 (by decide) ?_
    refine z_iconst (v := 1) S dX4_addThing_44 (by decide) ?_
    obtain ⟨M5, h9, he⟩ := bnd he
    refine z_cVV (As := [.int (gI M a0 3), .int 3, .int 1]) S cv_RX4_61 (K_X4_setThing h_a0 h9) h_a0 (by decide) (q := (RX4, TX4, 10)) rfl rfl ⟨rfl, rfl⟩ ⟨Nat.le_of_ble_eq_true rfl, Nat.le_of_ble_eq_true rfl⟩ ⟨Nat.le_refl _, Nat.le_refl _⟩ rfl rfl (Nat.le_of_ble_eq_true rfl) dX4_addThing_45 ?_
    refine z_aload_n S dX4_addThing_48 rfl 0 rfl ?_
    refine z_iload S dX4_addThing_49 4 rfl ?_
    refine z_iconst (v := 4) S dX4_addThing_51 (by decide) ?_
    refine z_iconst (v := 0) S dX4_addThing_52 (by decide) ?_
    obtain ⟨M6, h9, he⟩ := bnd he
    refine z_cVV (As := [.int (gI M a0 3), .int 4, .int 0]) S cv_RX4_61 (K_X4_setThing h_a0 h9) h_a0 (by decide) (q := (RX4, TX4, 10)) rfl rfl ⟨rfl, rfl⟩ ⟨Nat.le_of_ble_eq_true rfl, Nat.le_of_ble_eq_true rfl⟩ ⟨Nat.le_refl _, Nat.le_refl _⟩ rfl rfl (Nat.le_of_ble_eq_true rfl) dX4_addThing_53 ?_
    exact z_vret S (Option.some.inj he) dX4_addThing_56
set_option maxRecDepth 100000 in
set_option maxHeartbeats 4000000 in
theorem K_X1_readThing {X : Cx} {l : Launch} {M : Mm} {a1 : Nat} {r : Bool} {N : Mm} (h_a1 : OK 0 a1 4) (he : f_X1_readThing M a1 = some (r, N)) : KI X 0 l yX1_readThing (wz yX1_readThing cX1_readThing 4 (some .boolean)) rm_X1_readThing [.ref (X.2.2 97), .ref (X.2.2 a1)] M (bI r) N := by
  intro sz
  refine K_of (Qc := (fun sz => QI X 0 (bI r) N sz)) (own := RX1) (lv0 := [(0, .ref (X.2.2 97)), (1, .ref (X.2.2 a1))]) (by decide +kernel) rfl (Nat.le_of_ble_eq_true rfl) rfl (fun p e s m args below meth c S => ?_) sz
  · unfold f_X1_readThing at he
    refine z_aload_n S dX1_readThing_0 rfl 0 rfl ?_
    refine z_getF (j := 98) S fo_RX1_12 1 rfl rfl ok_97 dX1_readThing_1 ?_
    obtain ⟨M1, h9, he⟩ := bnd he
    refine z_cVV (As := []) S cv_RX1_79 (K_X7_next ok_98 h9) ok_98 (by decide) (q := (RX7, TX7, 9)) rfl rfl ⟨rfl, rfl⟩ ⟨Nat.le_of_ble_eq_true rfl, Nat.le_of_ble_eq_true rfl⟩ ⟨Nat.le_refl _, Nat.le_refl _⟩ rfl rfl (Nat.le_of_ble_eq_true rfl) dX1_readThing_4 ?_
    refine z_aload_n S dX1_readThing_7 rfl 0 rfl ?_
    refine z_aload_n S dX1_readThing_8 rfl 1 rfl ?_
    obtain ⟨⟨r2, M3⟩, h9, he⟩ := bnd he
    dsimp only at he
    refine z_cVI (As := [.ref (X.2.2 a1)]) S cv_RX1_82 (K_X1_readCell h_a1 h9) ok_97 (by decide) (q := (RX1, TX1, 2)) rfl rfl ⟨rfl, rfl⟩ ⟨Nat.le_of_ble_eq_true rfl, Nat.le_of_ble_eq_true rfl⟩ ⟨Nat.le_refl _, Nat.le_refl _⟩ rfl rfl (Nat.le_of_ble_eq_true rfl) dX1_readThing_9 ?_
    refine z_ifb_ne (tgt := 17) S he dX1_readThing_12 (by decide) (fun he => ?_) (fun he => ?_)
    · refine z_aload_n S dX1_readThing_17 rfl 0 rfl ?_
      refine z_getI S fo_RX1_85 rfl ok_97 dX1_readThing_18 ?_
      refine z_istore_n (lv' := [(0, .ref (X.2.2 97)), (1, .ref (X.2.2 a1)), (2, .int (gI M3 97 1))]) S [1, 2, 0] dX1_readThing_21 rfl (by decide) rfl ?_
      refine z_aload_n S dX1_readThing_22 rfl 0 rfl ?_
      refine z_getW (i := 2) (j := 302) S (by decide) rfl rfl gw_RX1_88 dX1_readThing_23 ?_
      refine z_iconst (v := 0) S dX1_readThing_26 (by decide) ?_
      refine z_bipush (v := 99) S dX1_readThing_27 (by decide) ?_
      obtain ⟨⟨r4, M5⟩, h9, he⟩ := bnd he
      dsimp only at he
      refine z_cVI (As := [.ref (X.2.2 302), .int 0, .int 99]) S cv_RX1_91 (K_X1_readNamed (isW_add (i := 2) (by decide)) h9) ok_97 (by decide) (q := (RX1, TX1, 2)) rfl rfl ⟨rfl, rfl⟩ ⟨Nat.le_of_ble_eq_true rfl, Nat.le_of_ble_eq_true rfl⟩ ⟨Nat.le_refl _, Nat.le_refl _⟩ rfl rfl (Nat.le_of_ble_eq_true rfl) dX1_readThing_29 ?_
      refine z_ifb_ne (tgt := 37) S he dX1_readThing_32 (by decide) (fun he => ?_) (fun he => ?_)
      · refine z_aload_n S dX1_readThing_37 rfl 0 rfl ?_
        refine z_getI S fo_RX1_85 rfl ok_97 dX1_readThing_38 ?_
        refine z_istore_n (lv' := [(0, .ref (X.2.2 97)), (1, .ref (X.2.2 a1)), (2, .int (gI M3 97 1)), (3, .int (gI M5 97 1))]) S [1, 2, 3, 0] dX1_readThing_41 rfl (by decide) rfl ?_
        refine z_aload_n S dX1_readThing_42 rfl 0 rfl ?_
        refine z_getW (i := 3) (j := 303) S (by decide) rfl rfl gw_RX1_95 dX1_readThing_43 ?_
        refine z_iconst (v := 1) S dX1_readThing_46 (by decide) ?_
        refine z_iconst (v := 3) S dX1_readThing_47 (by decide) ?_
        obtain ⟨⟨r6, M7⟩, h9, he⟩ := bnd he
        dsimp only at he
        refine z_cVI (As := [.ref (X.2.2 303), .int 1, .int 3]) S cv_RX1_91 (K_X1_readNamed (isW_add (i := 3) (by decide)) h9) ok_97 (by decide) (q := (RX1, TX1, 2)) rfl rfl ⟨rfl, rfl⟩ ⟨Nat.le_of_ble_eq_true rfl, Nat.le_of_ble_eq_true rfl⟩ ⟨Nat.le_refl _, Nat.le_refl _⟩ rfl rfl (Nat.le_of_ble_eq_true rfl) dX1_readThing_48 ?_
        refine z_ifb_ne (tgt := 56) S he dX1_readThing_51 (by decide) (fun he => ?_) (fun he => ?_)
        · refine z_aload_n S dX1_readThing_56 rfl 1 rfl ?_
          refine z_iload_n S dX1_readThing_57 rfl 2 rfl ?_
          refine z_iload_n S dX1_readThing_58 rfl 3 rfl ?_
          refine z_aload_n S dX1_readThing_59 rfl 0 rfl ?_
          refine z_getI S fo_RX1_85 rfl ok_97 dX1_readThing_60 ?_
          obtain ⟨M8, h9, he⟩ := bnd he
          refine z_cVV (As := [.int (gI M3 97 1), .int (gI M5 97 1), .int (gI M7 97 1)]) S cv_RX1_98 (K_X4_addThing h_a1 h9) h_a1 (by decide) (q := (RX4, TX4, 10)) rfl rfl ⟨rfl, rfl⟩ ⟨Nat.le_of_ble_eq_true rfl, Nat.le_of_ble_eq_true rfl⟩ ⟨Nat.le_refl _, Nat.le_refl _⟩ rfl rfl (Nat.le_of_ble_eq_true rfl) dX1_readThing_63 ?_
          refine z_iconst (v := 1) S dX1_readThing_66 (by decide) ?_
          exact z_zret1 S (Prod.mk.inj (Option.some.inj he)) dX1_readThing_67
        · refine z_iconst (v := 0) S dX1_readThing_54 (by decide) ?_
          exact z_zret0 S (Prod.mk.inj (Option.some.inj he)) dX1_readThing_55
      · refine z_iconst (v := 0) S dX1_readThing_35 (by decide) ?_
        exact z_zret0 S (Prod.mk.inj (Option.some.inj he)) dX1_readThing_36
    · refine z_iconst (v := 0) S dX1_readThing_15 (by decide) ?_
      exact z_zret0 S (Prod.mk.inj (Option.some.inj he)) dX1_readThing_16
set_option maxRecDepth 100000 in
set_option maxHeartbeats 4000000 in
theorem K_X1_readColumn {X : Cx} {l : Launch} {M : Mm} {a1 : Int32} {r : Bool} {N : Mm}  (he : f_X1_readColumn M a1 = some (r, N)) : KI X 0 l yX1_readColumn (wz yX1_readColumn cX1_readColumn 2 (some .boolean)) rm_X1_readColumn [.ref (X.2.2 97), .int a1] M (bI r) N := by
  intro sz
  refine K_of (Qc := (fun sz => QI X 0 (bI r) N sz)) (own := RX1) (lv0 := [(0, .ref (X.2.2 97)), (1, .int a1)]) (by decide +kernel) rfl (Nat.le_of_ble_eq_true rfl) rfl (fun p e s m args below meth c S => ?_) sz
  · unfold f_X1_readColumn at he
    refine z_iload_n S dX1_readColumn_0 rfl 1 rfl ?_
    rcases z_sw he with ⟨hk0, he⟩ | ⟨hk0, he⟩
    · refine z_tabIn (tgt := 28) S dX1_readColumn_1 hk0 (by decide) (by decide) rfl (by decide) ?_
      refine z_aload_n S dX1_readColumn_28 rfl 0 rfl ?_
      refine z_getW (i := 16) (j := 316) S (by decide) rfl rfl gw_RX1_127 dX1_readColumn_29 ?_
      refine z_iconst (v := 0) S dX1_readColumn_32 (by decide) ?_
      refine z_bipush (v := 99) S dX1_readColumn_33 (by decide) ?_
      obtain ⟨⟨r1, M2⟩, h9, he⟩ := bnd he
      dsimp only at he
      refine z_cVI (As := [.ref (X.2.2 316), .int 0, .int 99]) S cv_RX1_91 (K_X1_readNamed (isW_add (i := 16) (by decide)) h9) ok_97 (by decide) (q := (RX1, TX1, 2)) rfl rfl ⟨rfl, rfl⟩ ⟨Nat.le_of_ble_eq_true rfl, Nat.le_of_ble_eq_true rfl⟩ ⟨Nat.le_refl _, Nat.le_refl _⟩ rfl rfl (Nat.le_of_ble_eq_true rfl) dX1_readColumn_35 ?_
      exact z_zret S (Prod.mk.inj (Option.some.inj he)) dX1_readColumn_38
    rcases z_sw he with ⟨hk1, he⟩ | ⟨hk1, he⟩
    · refine z_tabIn (tgt := 39) S dX1_readColumn_1 hk1 (by decide) (by decide) rfl (by decide) ?_
      refine z_aload_n S dX1_readColumn_39 rfl 0 rfl ?_
      refine z_getW (i := 17) (j := 317) S (by decide) rfl rfl gw_RX1_130 dX1_readColumn_40 ?_
      refine z_iconst (v := 0) S dX1_readColumn_43 (by decide) ?_
      refine z_bipush (v := 9) S dX1_readColumn_44 (by decide) ?_
      obtain ⟨⟨r3, M4⟩, h9, he⟩ := bnd he
      dsimp only at he
      refine z_cVI (As := [.ref (X.2.2 317), .int 0, .int 9]) S cv_RX1_91 (K_X1_readNamed (isW_add (i := 17) (by decide)) h9) ok_97 (by decide) (q := (RX1, TX1, 2)) rfl rfl ⟨rfl, rfl⟩ ⟨Nat.le_of_ble_eq_true rfl, Nat.le_of_ble_eq_true rfl⟩ ⟨Nat.le_refl _, Nat.le_refl _⟩ rfl rfl (Nat.le_of_ble_eq_true rfl) dX1_readColumn_46 ?_
      exact z_zret S (Prod.mk.inj (Option.some.inj he)) dX1_readColumn_49
    rcases z_sw he with ⟨hk2, he⟩ | ⟨hk2, he⟩
    · refine z_tabIn (tgt := 50) S dX1_readColumn_1 hk2 (by decide) (by decide) rfl (by decide) ?_
      refine z_aload_n S dX1_readColumn_50 rfl 0 rfl ?_
      refine z_getW (i := 18) (j := 318) S (by decide) rfl rfl gw_RX1_133 dX1_readColumn_51 ?_
      refine z_iconst (v := 0) S dX1_readColumn_54 (by decide) ?_
      refine z_bipush (v := 9) S dX1_readColumn_55 (by decide) ?_
      obtain ⟨⟨r5, M6⟩, h9, he⟩ := bnd he
      dsimp only at he
      refine z_cVI (As := [.ref (X.2.2 318), .int 0, .int 9]) S cv_RX1_91 (K_X1_readNamed (isW_add (i := 18) (by decide)) h9) ok_97 (by decide) (q := (RX1, TX1, 2)) rfl rfl ⟨rfl, rfl⟩ ⟨Nat.le_of_ble_eq_true rfl, Nat.le_of_ble_eq_true rfl⟩ ⟨Nat.le_refl _, Nat.le_refl _⟩ rfl rfl (Nat.le_of_ble_eq_true rfl) dX1_readColumn_57 ?_
      exact z_zret S (Prod.mk.inj (Option.some.inj he)) dX1_readColumn_60
    refine z_tabOut (tgt := 61) S dX1_readColumn_1 (sw_out3 hk0 hk1 hk2) (by decide) ?_
    refine z_aload_n S dX1_readColumn_61 rfl 0 rfl ?_
    refine z_getW (i := 5) (j := 305) S (by decide) rfl rfl gw_RX1_136 dX1_readColumn_62 ?_
    refine z_iconst (v := 0) S dX1_readColumn_65 (by decide) ?_
    refine z_bipush (v := 100) S dX1_readColumn_66 (by decide) ?_
    obtain ⟨⟨r7, M8⟩, h9, he⟩ := bnd he
    dsimp only at he
    refine z_cVI (As := [.ref (X.2.2 305), .int 0, .int 100]) S cv_RX1_91 (K_X1_readNamed (isW_add (i := 5) (by decide)) h9) ok_97 (by decide) (q := (RX1, TX1, 2)) rfl rfl ⟨rfl, rfl⟩ ⟨Nat.le_of_ble_eq_true rfl, Nat.le_of_ble_eq_true rfl⟩ ⟨Nat.le_refl _, Nat.le_refl _⟩ rfl rfl (Nat.le_of_ble_eq_true rfl) dX1_readColumn_68 ?_
    exact z_zret S (Prod.mk.inj (Option.some.inj he)) dX1_readColumn_71
set_option maxRecDepth 100000 in
set_option maxHeartbeats 4000000 in
theorem K_X7_marksHere {X : Cx} {l : Launch} {M : Mm} {a0 : Nat} {r : Int32} (h_a0 : OK 0 a0 7) (he : f_X7_marksHere M a0 = some r) : KI X 0 l yX7_marksHere (wz yX7_marksHere cX7_marksHere 1 (some .int)) rm_X7_marksHere [.ref (X.2.2 a0)] M r M := by
  intro sz
  refine K_of (Qc := (fun sz => QI X 0 r M sz)) (own := RX7) (lv0 := [(0, .ref (X.2.2 a0))]) (by decide +kernel) rfl (Nat.le_of_ble_eq_true rfl) rfl (fun p e s m args below meth c S => ?_) sz
  · unfold f_X7_marksHere at he
    refine z_aload_n S dX7_marksHere_0 rfl 0 rfl ?_
    refine z_getWd S fo_RX7_28 rfl h_a0 he dX7_marksHere_1 (fun q1 hq1 he => ?_)
    refine z_getW (i := 29) (j := 329) S (by decide) rfl rfl gw_RX7_100 dX7_marksHere_4 ?_
    refine z_acmp_ne (tgt := 17) S hq1 (isW_add (i := 29) (by decide)) he dX7_marksHere_7 (by decide) (fun he => ?_) (fun he => ?_)
    · refine z_iconst (v := (-1)) S dX7_marksHere_17 (by decide) ?_
      exact z_iret S (⟨Option.some.inj he, rfl⟩) dX7_marksHere_18
    · refine z_aload_n S dX7_marksHere_10 rfl 0 rfl ?_
      refine z_getI S fo_RX7_116 rfl h_a0 dX7_marksHere_11 ?_
      refine z_goto (tgt := 18) S dX7_marksHere_14 (by decide) ?_
      exact z_iret S (⟨Option.some.inj he, rfl⟩) dX7_marksHere_18
set_option maxRecDepth 100000 in
set_option maxHeartbeats 4000000 in
theorem K_X1_readMarks {X : Cx} {l : Launch} {M : Mm} {a1 : Nat} {a2 : Int32} {r : Bool} {N : Mm} (h_a1 : OK 0 a1 4) (he : f_X1_readMarks M a1 a2 = some (r, N)) : KI X 0 l yX1_readMarks (wz yX1_readMarks cX1_readMarks 4 (some .boolean)) rm_X1_readMarks [.ref (X.2.2 97), .ref (X.2.2 a1), .int a2] M (bI r) N := by
  intro sz
  refine K_of (Qc := (fun sz => QI X 0 (bI r) N sz)) (own := RX1) (lv0 := [(0, .ref (X.2.2 97)), (1, .ref (X.2.2 a1)), (2, .int a2)]) (by decide +kernel) rfl (Nat.le_of_ble_eq_true rfl) rfl (fun p e s m args below meth c S => ?_) sz
  · unfold f_X1_readMarks at he
    refine z_aload_n S dX1_readMarks_0 rfl 0 rfl ?_
    refine z_getF (j := 98) S fo_RX1_12 1 rfl rfl ok_97 dX1_readMarks_1 ?_
    obtain ⟨r1, h9, he⟩ := bnd he
    refine z_cVI (As := []) S cv_RX1_139 (K_X7_marksHere ok_98 h9) ok_98 (by decide) (q := (RX7, TX7, 9)) rfl rfl ⟨rfl, rfl⟩ ⟨Nat.le_of_ble_eq_true rfl, Nat.le_of_ble_eq_true rfl⟩ ⟨Nat.le_refl _, Nat.le_refl _⟩ rfl rfl (Nat.le_of_ble_eq_true rfl) dX1_readMarks_4 ?_
    refine z_istore_n (lv' := [(0, .ref (X.2.2 97)), (1, .ref (X.2.2 a1)), (2, .int a2), (3, .int r1)]) S [1, 2, 3, 0] dX1_readMarks_7 rfl (by decide) rfl ?_
    refine z_iload_n S dX1_readMarks_8 rfl 3 rfl ?_
    refine z_iconst (v := (-1)) S dX1_readMarks_9 (by decide) ?_
    refine z_icmp_ne (tgt := 21) S he dX1_readMarks_10 (by decide) (fun he => ?_) (fun he => ?_)
    · refine z_aload_n S dX1_readMarks_21 rfl 1 rfl ?_
      refine z_iload_n S dX1_readMarks_22 rfl 2 rfl ?_
      refine z_iconst (v := 4) S dX1_readMarks_23 (by decide) ?_
      refine z_iload_n S dX1_readMarks_24 rfl 3 rfl ?_
      obtain ⟨M2, h9, he⟩ := bnd he
      refine z_cVV (As := [.int a2, .int 4, .int r1]) S cv_RX1_117 (K_X4_setVisitor h_a1 h9) h_a1 (by decide) (q := (RX4, TX4, 10)) rfl rfl ⟨rfl, rfl⟩ ⟨Nat.le_of_ble_eq_true rfl, Nat.le_of_ble_eq_true rfl⟩ ⟨Nat.le_refl _, Nat.le_refl _⟩ rfl rfl (Nat.le_of_ble_eq_true rfl) dX1_readMarks_25 ?_
      refine z_aload_n S dX1_readMarks_28 rfl 0 rfl ?_
      refine z_getF (j := 98) S fo_RX1_12 1 rfl rfl ok_97 dX1_readMarks_29 ?_
      obtain ⟨M3, h9, he⟩ := bnd he
      refine z_cVV (As := []) S cv_RX1_79 (K_X7_next ok_98 h9) ok_98 (by decide) (q := (RX7, TX7, 9)) rfl rfl ⟨rfl, rfl⟩ ⟨Nat.le_of_ble_eq_true rfl, Nat.le_of_ble_eq_true rfl⟩ ⟨Nat.le_refl _, Nat.le_refl _⟩ rfl rfl (Nat.le_of_ble_eq_true rfl) dX1_readMarks_32 ?_
      refine z_iconst (v := 1) S dX1_readMarks_35 (by decide) ?_
      exact z_zret1 S (Prod.mk.inj (Option.some.inj he)) dX1_readMarks_36
    · refine z_aload_n S dX1_readMarks_13 rfl 0 rfl ?_
      refine z_getF (j := 98) S fo_RX1_12 1 rfl rfl ok_97 dX1_readMarks_14 ?_
      obtain ⟨⟨r4, M5⟩, h9, he⟩ := bnd he
      dsimp only at he
      refine z_cVI (As := []) S cv_RX1_42 (K_X7_refuse ok_98 (Option.some.inj h9)) ok_98 (by decide) (q := (RX7, TX7, 9)) rfl rfl ⟨rfl, rfl⟩ ⟨Nat.le_of_ble_eq_true rfl, Nat.le_of_ble_eq_true rfl⟩ ⟨Nat.le_refl _, Nat.le_refl _⟩ rfl rfl (Nat.le_of_ble_eq_true rfl) dX1_readMarks_17 ?_
      exact z_zret S (Prod.mk.inj (Option.some.inj he)) dX1_readMarks_20
set_option maxRecDepth 100000 in
set_option maxHeartbeats 4000000 in
theorem p_X1_readVisitor_L24 {X : Cx} {p : Program} {l : Launch} {e : Env} {s : State} {m : MethodId} {args : Array Value} {below : List Frame} {meth : Method} {c : Code} (S : SB X 0 p s m args meth c cX1_readVisitor 4 (some .boolean) RX1) {M : Mm} {N : Mm} {r : Bool} {v1 : Nat} {v2 : Int32} {v3 : Int32} {x : (Mm × Int32) ⊕ ((Bool × Mm) ⊕ Mm)} (h_v1 : OK 0 v1 4) (he : f_X1_readVisitor_L24 M v1 v2 v3 = some x) (hc : ∀ b, x = .inl b → Z X 0 p l e rm_X1_readVisitor s m args below meth c 0 0 (MQ below (QI X 0 (bI r) N s.heap.size) args s 0 0 (AA X 0 s.heap.size)) 4 b.1 24 [(0, .ref (X.2.2 97)), (1, .ref (X.2.2 v1)), (2, .int v2), (3, .int b.2)] []) (hx : ∀ b, x = .inr (.inr b) → Z X 0 p l e rm_X1_readVisitor s m args below meth c 0 0 (MQ below (QI X 0 (bI r) N s.heap.size) args s 0 0 (AA X 0 s.heap.size)) 4 b 55 [(0, .ref (X.2.2 97)), (1, .ref (X.2.2 v1)), (2, .int v2)] []) (hr : ∀ v, x = .inr (.inl v) → v = (r, N)) : Z X 0 p l e rm_X1_readVisitor s m args below meth c 0 0 (MQ below (QI X 0 (bI r) N s.heap.size) args s 0 0 (AA X 0 s.heap.size)) 4 M 24 [(0, .ref (X.2.2 97)), (1, .ref (X.2.2 v1)), (2, .int v2), (3, .int v3)] [] := by
  unfold f_X1_readVisitor_L24 at he
  refine z_iload_n S dX1_readVisitor_24 rfl 3 rfl ?_
  refine z_iconst (v := 3) S dX1_readVisitor_25 (by decide) ?_
  refine z_icmp_gt (tgt := 55) S he dX1_readVisitor_26 (by decide) (fun he => ?_) (fun he => ?_)
  · refine z_lv (ks := [0, 1, 2]) rfl ?_
    exact hx _ (Option.some.inj he).symm
  · refine z_aload_n S dX1_readVisitor_29 rfl 0 rfl ?_
    refine z_iload_n S dX1_readVisitor_30 rfl 3 rfl ?_
    obtain ⟨⟨r3, M4⟩, h9, he⟩ := bnd he
    dsimp only at he
    refine z_cVI (As := [.int v3]) S cv_RX1_113 (K_X1_readColumn  h9) ok_97 (by decide) (q := (RX1, TX1, 2)) rfl rfl ⟨rfl, rfl⟩ ⟨Nat.le_of_ble_eq_true rfl, Nat.le_of_ble_eq_true rfl⟩ ⟨Nat.le_refl _, Nat.le_refl _⟩ rfl rfl (Nat.le_of_ble_eq_true rfl) dX1_readVisitor_31 ?_
    refine z_ifb_ne (tgt := 39) S he dX1_readVisitor_34 (by decide) (fun he => ?_) (fun he => ?_)
    · refine z_aload_n S dX1_readVisitor_39 rfl 1 rfl ?_
      refine z_iload_n S dX1_readVisitor_40 rfl 2 rfl ?_
      refine z_iload_n S dX1_readVisitor_41 rfl 3 rfl ?_
      refine z_aload_n S dX1_readVisitor_42 rfl 0 rfl ?_
      refine z_getI S fo_RX1_85 rfl ok_97 dX1_readVisitor_43 ?_
      obtain ⟨M5, h9, he⟩ := bnd he
      refine z_cVV (As := [.int v2, .int v3, .int (gI M4 97 1)]) S cv_RX1_117 (K_X4_setVisitor h_v1 h9) h_v1 (by decide) (q := (RX4, TX4, 10)) rfl rfl ⟨rfl, rfl⟩ ⟨Nat.le_of_ble_eq_true rfl, Nat.le_of_ble_eq_true rfl⟩ ⟨Nat.le_refl _, Nat.le_refl _⟩ rfl rfl (Nat.le_of_ble_eq_true rfl) dX1_readVisitor_46 ?_
      refine z_iinc (v := (v3 + 1)) (lv' := [(0, .ref (X.2.2 97)), (1, .ref (X.2.2 v1)), (2, .int v2), (3, .int (v3 + 1))]) S [1, 2, 3, 0] 3 dX1_readVisitor_49 rfl (by rfl) (by decide) rfl ?_
      refine z_goto (tgt := 24) S dX1_readVisitor_52 (by decide) ?_
      refine z_lv (ks := [0, 1, 2, 3]) rfl ?_
      exact hc _ (Option.some.inj he).symm
    · refine z_iconst (v := 0) S dX1_readVisitor_37 (by decide) ?_
      exact z_zret0 S (Prod.mk.inj (hr _ (Option.some.inj he).symm)) dX1_readVisitor_38
set_option maxRecDepth 100000 in
set_option maxHeartbeats 4000000 in
theorem p_X1_readVisitor_J84 {X : Cx} {p : Program} {l : Launch} {e : Env} {s : State} {m : MethodId} {args : Array Value} {below : List Frame} {meth : Method} {c : Code} (S : SB X 0 p s m args meth c cX1_readVisitor 4 (some .boolean) RX1) {M : Mm} {N : Mm} {r : Bool}  (he : f_X1_readVisitor_J84 M  = some (r, N)) : Z X 0 p l e rm_X1_readVisitor s m args below meth c 0 0 (MQ below (QI X 0 (bI r) N s.heap.size) args s 0 0 (AA X 0 s.heap.size)) 4 M 84 [] [] := by
  unfold f_X1_readVisitor_J84 at he
  refine z_iconst (v := 1) S dX1_readVisitor_84 (by decide) ?_
  refine z_goto (tgt := 89) S dX1_readVisitor_85 (by decide) ?_
  exact z_zret1 S (Prod.mk.inj (Option.some.inj he)) dX1_readVisitor_89
set_option maxRecDepth 100000 in
set_option maxHeartbeats 4000000 in
theorem K_X1_readVisitor {X : Cx} {l : Launch} {M : Mm} {a1 : Nat} {r : Bool} {N : Mm} (h_a1 : OK 0 a1 4) (he : f_X1_readVisitor M a1 = some (r, N)) : KI X 0 l yX1_readVisitor (wz yX1_readVisitor cX1_readVisitor 4 (some .boolean)) rm_X1_readVisitor [.ref (X.2.2 97), .ref (X.2.2 a1)] M (bI r) N := by
  intro sz
  refine K_of (Qc := (fun sz => QI X 0 (bI r) N sz)) (own := RX1) (lv0 := [(0, .ref (X.2.2 97)), (1, .ref (X.2.2 a1))]) (by decide +kernel) rfl (Nat.le_of_ble_eq_true rfl) rfl (fun p e s m args below meth c S => ?_) sz
  · unfold f_X1_readVisitor at he
    refine z_aload_n S dX1_readVisitor_0 rfl 1 rfl ?_
    refine z_getI S fo_RX1_61 rfl h_a1 dX1_readVisitor_1 ?_
    refine z_istore_n (lv' := [(0, .ref (X.2.2 97)), (1, .ref (X.2.2 a1)), (2, .int (gI M a1 4))]) S [1, 2, 0] dX1_readVisitor_4 rfl (by decide) rfl ?_
    refine z_aload_n S dX1_readVisitor_5 rfl 1 rfl ?_
    refine z_dup S rfl dX1_readVisitor_6 ?_
    refine z_getI S fo_RX1_61 rfl h_a1 dX1_readVisitor_7 ?_
    refine z_iconst (v := 1) S dX1_readVisitor_10 (by decide) ?_
    refine z_iadd S dX1_readVisitor_11 ?_
    refine z_putIb S fo_RX1_61p rfl h_a1 rfl rfl he dX1_readVisitor_12 (fun M1 he => ?_)
    refine z_aload_n S dX1_readVisitor_15 rfl 0 rfl ?_
    refine z_getF (j := 98) S fo_RX1_12 1 rfl rfl ok_97 dX1_readVisitor_16 ?_
    obtain ⟨M2, h9, he⟩ := bnd he
    refine z_cVV (As := []) S cv_RX1_79 (K_X7_next ok_98 h9) ok_98 (by decide) (q := (RX7, TX7, 9)) rfl rfl ⟨rfl, rfl⟩ ⟨Nat.le_of_ble_eq_true rfl, Nat.le_of_ble_eq_true rfl⟩ ⟨Nat.le_refl _, Nat.le_refl _⟩ rfl rfl (Nat.le_of_ble_eq_true rfl) dX1_readVisitor_19 ?_
    refine z_iconst (v := 0) S dX1_readVisitor_22 (by decide) ?_
    refine z_istore_n (lv' := [(0, .ref (X.2.2 97)), (1, .ref (X.2.2 a1)), (2, .int (gI M a1 4)), (3, .int 0)]) S [1, 2, 3, 0] dX1_readVisitor_23 rfl (by decide) rfl ?_
    obtain ⟨r9, hl, hr1, hr2⟩ := bndS he
    have hX : ∀ e_6, r9 = .inr e_6 → Z X 0 p l e rm_X1_readVisitor s m args below meth c 0 0 (MQ below (QI X 0 (bI r) N s.heap.size) args s 0 0 (AA X 0 s.heap.size)) 4 e_6 55 [(0, .ref (X.2.2 97)), (1, .ref (X.2.2 a1)), (2, .int (gI M a1 4))] [] := by
      intro e_6 hre
      have he := hr2 e_6 hre
      refine z_aload_n S dX1_readVisitor_55 rfl 1 rfl ?_
      refine z_iload_n S dX1_readVisitor_56 rfl 2 rfl ?_
      refine z_iconst (v := 4) S dX1_readVisitor_57 (by decide) ?_
      refine z_iconst (v := 0) S dX1_readVisitor_58 (by decide) ?_
      obtain ⟨M7, h9, he⟩ := bnd he
      refine z_cVV (As := [.int (gI M a1 4), .int 4, .int 0]) S cv_RX1_117 (K_X4_setVisitor h_a1 h9) h_a1 (by decide) (q := (RX4, TX4, 10)) rfl rfl ⟨rfl, rfl⟩ ⟨Nat.le_of_ble_eq_true rfl, Nat.le_of_ble_eq_true rfl⟩ ⟨Nat.le_refl _, Nat.le_refl _⟩ rfl rfl (Nat.le_of_ble_eq_true rfl) dX1_readVisitor_59 ?_
      refine z_aload_n S dX1_readVisitor_62 rfl 0 rfl ?_
      refine z_getF (j := 98) S fo_RX1_12 1 rfl rfl ok_97 dX1_readVisitor_63 ?_
      refine z_getW (i := 6) (j := 306) S (by decide) rfl rfl gw_RX1_120 dX1_readVisitor_66 ?_
      obtain ⟨⟨r8, M9⟩, h9, he⟩ := bnd he
      dsimp only at he
      refine z_cVI (As := [.ref (X.2.2 306)]) S cv_RX1_38 (K_X7_skip ok_98 (isW_add (i := 6) (by decide)) h9) ok_98 (by decide) (q := (RX7, TX7, 9)) rfl rfl ⟨rfl, rfl⟩ ⟨Nat.le_of_ble_eq_true rfl, Nat.le_of_ble_eq_true rfl⟩ ⟨Nat.le_refl _, Nat.le_refl _⟩ rfl rfl (Nat.le_of_ble_eq_true rfl) dX1_readVisitor_69 ?_
      refine z_ifb_eq (tgt := 84) S he dX1_readVisitor_72 (by decide) (fun he => ?_) (fun he => ?_)
      · refine z_lv (ks := []) rfl ?_
        exact p_X1_readVisitor_J84 S  he
      · refine z_aload_n S dX1_readVisitor_75 rfl 0 rfl ?_
        refine z_aload_n S dX1_readVisitor_76 rfl 1 rfl ?_
        refine z_iload_n S dX1_readVisitor_77 rfl 2 rfl ?_
        obtain ⟨⟨r10, M11⟩, h9, he⟩ := bnd he
        dsimp only at he
        refine z_cVI (As := [.ref (X.2.2 a1), .int (gI M a1 4)]) S cv_RX1_123 (K_X1_readMarks h_a1 h9) ok_97 (by decide) (q := (RX1, TX1, 2)) rfl rfl ⟨rfl, rfl⟩ ⟨Nat.le_of_ble_eq_true rfl, Nat.le_of_ble_eq_true rfl⟩ ⟨Nat.le_refl _, Nat.le_refl _⟩ rfl rfl (Nat.le_of_ble_eq_true rfl) dX1_readVisitor_78 ?_
        refine z_ifb_eq (tgt := 88) S he dX1_readVisitor_81 (by decide) (fun he => ?_) (fun he => ?_)
        · refine z_iconst (v := 0) S dX1_readVisitor_88 (by decide) ?_
          exact z_zret0 S (Prod.mk.inj (Option.some.inj he)) dX1_readVisitor_89
        · refine z_lv (ks := []) rfl ?_
          exact p_X1_readVisitor_J84 S  he
    exact loopZ (Zh := (fun a_6 => Z X 0 p l e rm_X1_readVisitor s m args below meth c 0 0 (MQ below (QI X 0 (bI r) N s.heap.size) args s 0 0 (AA X 0 s.heap.size)) 4 a_6.1 24 [(0, .ref (X.2.2 97)), (1, .ref (X.2.2 a1)), (2, .int (gI M a1 4)), (3, .int a_6.2)] [])) (fun a_6 x hb hc hr9 => p_X1_readVisitor_L24 S h_a1 hb hc (fun b hxe => hX b (hr9 _ hxe).symm) (fun v hxv => Option.some.inj (hr1 v (hr9 _ hxv).symm))) FU _ hl
set_option maxRecDepth 100000 in
set_option maxHeartbeats 4000000 in
theorem K_X1_readSpeed {X : Cx} {l : Launch} {M : Mm} {a1 : Nat} {r : Bool} {N : Mm} (h_a1 : OK 0 a1 4) (he : f_X1_readSpeed M a1 = some (r, N)) : KI X 0 l yX1_readSpeed (wz yX1_readSpeed cX1_readSpeed 3 (some .boolean)) rm_X1_readSpeed [.ref (X.2.2 97), .ref (X.2.2 a1)] M (bI r) N := by
  intro sz
  refine K_of (Qc := (fun sz => QI X 0 (bI r) N sz)) (own := RX1) (lv0 := [(0, .ref (X.2.2 97)), (1, .ref (X.2.2 a1))]) (by decide +kernel) rfl (Nat.le_of_ble_eq_true rfl) rfl (fun p e s m args below meth c S => ?_) sz
  · unfold f_X1_readSpeed at he
    refine z_aload_n S dX1_readSpeed_0 rfl 0 rfl ?_
    refine z_getW (i := 7) (j := 307) S (by decide) rfl rfl gw_RX1_67 dX1_readSpeed_1 ?_
    refine z_iconst (v := 1) S dX1_readSpeed_4 (by decide) ?_
    refine z_bipush (v := 9) S dX1_readSpeed_5 (by decide) ?_
    obtain ⟨⟨r1, M2⟩, h9, he⟩ := bnd he
    dsimp only at he
    refine z_cVI (As := [.ref (X.2.2 307), .int 1, .int 9]) S cv_RX1_91 (K_X1_readNamed (isW_add (i := 7) (by decide)) h9) ok_97 (by decide) (q := (RX1, TX1, 2)) rfl rfl ⟨rfl, rfl⟩ ⟨Nat.le_of_ble_eq_true rfl, Nat.le_of_ble_eq_true rfl⟩ ⟨Nat.le_refl _, Nat.le_refl _⟩ rfl rfl (Nat.le_of_ble_eq_true rfl) dX1_readSpeed_7 ?_
    refine z_istore_n (lv' := [(0, .ref (X.2.2 97)), (1, .ref (X.2.2 a1)), (2, .int (bI r1))]) S [1, 2, 0] dX1_readSpeed_10 rfl (by decide) rfl ?_
    refine z_iload_n S dX1_readSpeed_11 rfl 2 rfl ?_
    refine z_ifb_eq (tgt := 23) S he dX1_readSpeed_12 (by decide) (fun he => ?_) (fun he => ?_)
    · refine z_iload_n S dX1_readSpeed_23 rfl 2 rfl ?_
      exact z_zret S (Prod.mk.inj (Option.some.inj he)) dX1_readSpeed_24
    · refine z_aload_n S dX1_readSpeed_15 rfl 1 rfl ?_
      refine z_aload_n S dX1_readSpeed_16 rfl 0 rfl ?_
      refine z_getI S fo_RX1_85 rfl ok_97 dX1_readSpeed_17 ?_
      refine z_putIb S fo_RX1_143p rfl h_a1 rfl rfl he dX1_readSpeed_20 (fun M3 he => ?_)
      refine z_iload_n S dX1_readSpeed_23 rfl 2 rfl ?_
      exact z_zret S (Prod.mk.inj (Option.some.inj he)) dX1_readSpeed_24
set_option maxRecDepth 100000 in
set_option maxHeartbeats 4000000 in
theorem K_X1_readCellar {X : Cx} {l : Launch} {M : Mm} {a1 : Nat} {r : Bool} {N : Mm} (h_a1 : OK 0 a1 4) (he : f_X1_readCellar M a1 = some (r, N)) : KI X 0 l yX1_readCellar (wz yX1_readCellar cX1_readCellar 3 (some .boolean)) rm_X1_readCellar [.ref (X.2.2 97), .ref (X.2.2 a1)] M (bI r) N := by
  intro sz
  refine K_of (Qc := (fun sz => QI X 0 (bI r) N sz)) (own := RX1) (lv0 := [(0, .ref (X.2.2 97)), (1, .ref (X.2.2 a1))]) (by decide +kernel) rfl (Nat.le_of_ble_eq_true rfl) rfl (fun p e s m args below meth c S => ?_) sz
  · unfold f_X1_readCellar at he
    refine z_aload_n S dX1_readCellar_0 rfl 0 rfl ?_
    refine z_getW (i := 8) (j := 308) S (by decide) rfl rfl gw_RX1_73 dX1_readCellar_1 ?_
    refine z_iconst (v := 0) S dX1_readCellar_4 (by decide) ?_
    refine z_aload_n S dX1_readCellar_5 rfl 1 rfl ?_
    refine z_getI S fo_RX1_49 rfl h_a1 dX1_readCellar_6 ?_
    refine z_iconst (v := 1) S dX1_readCellar_9 (by decide) ?_
    refine z_isub S dX1_readCellar_10 ?_
    obtain ⟨⟨r1, M2⟩, h9, he⟩ := bnd he
    dsimp only at he
    refine z_cVI (As := [.ref (X.2.2 308), .int 0, .int ((gI M a1 3) - 1)]) S cv_RX1_91 (K_X1_readNamed (isW_add (i := 8) (by decide)) h9) ok_97 (by decide) (q := (RX1, TX1, 2)) rfl rfl ⟨rfl, rfl⟩ ⟨Nat.le_of_ble_eq_true rfl, Nat.le_of_ble_eq_true rfl⟩ ⟨Nat.le_refl _, Nat.le_refl _⟩ rfl rfl (Nat.le_of_ble_eq_true rfl) dX1_readCellar_11 ?_
    refine z_istore_n (lv' := [(0, .ref (X.2.2 97)), (1, .ref (X.2.2 a1)), (2, .int (bI r1))]) S [1, 2, 0] dX1_readCellar_14 rfl (by decide) rfl ?_
    refine z_iload_n S dX1_readCellar_15 rfl 2 rfl ?_
    refine z_ifb_eq (tgt := 29) S he dX1_readCellar_16 (by decide) (fun he => ?_) (fun he => ?_)
    · refine z_iload_n S dX1_readCellar_29 rfl 2 rfl ?_
      exact z_zret S (Prod.mk.inj (Option.some.inj he)) dX1_readCellar_30
    · refine z_aload_n S dX1_readCellar_19 rfl 1 rfl ?_
      refine z_aload_n S dX1_readCellar_20 rfl 0 rfl ?_
      refine z_getI S fo_RX1_85 rfl ok_97 dX1_readCellar_21 ?_
      refine z_iconst (v := 3) S dX1_readCellar_24 (by decide) ?_
      refine z_iconst (v := 0) S dX1_readCellar_25 (by decide) ?_
      obtain ⟨M3, h9, he⟩ := bnd he
      refine z_cVV (As := [.int (gI M2 97 1), .int 3, .int 0]) S cv_RX1_146 (K_X4_setThing h_a1 h9) h_a1 (by decide) (q := (RX4, TX4, 10)) rfl rfl ⟨rfl, rfl⟩ ⟨Nat.le_of_ble_eq_true rfl, Nat.le_of_ble_eq_true rfl⟩ ⟨Nat.le_refl _, Nat.le_refl _⟩ rfl rfl (Nat.le_of_ble_eq_true rfl) dX1_readCellar_26 ?_
      refine z_iload_n S dX1_readCellar_29 rfl 2 rfl ?_
      exact z_zret S (Prod.mk.inj (Option.some.inj he)) dX1_readCellar_30
set_option maxRecDepth 100000 in
set_option maxHeartbeats 4000000 in
theorem p_X1_readLine_J56 {X : Cx} {p : Program} {l : Launch} {e : Env} {s : State} {m : MethodId} {args : Array Value} {below : List Frame} {meth : Method} {c : Code} (S : SB X 0 p s m args meth c cX1_readLine 2 (some .boolean) RX1) {M : Mm} {N : Mm} {r : Bool} {v1 : Nat} (h_v1 : OK 0 v1 4) (he : f_X1_readLine_J56 M v1 = some (r, N)) : Z X 0 p l e rm_X1_readLine s m args below meth c 0 0 (MQ below (QI X 0 (bI r) N s.heap.size) args s 0 0 (AA X 0 s.heap.size)) 2 M 56 [(0, .ref (X.2.2 97)), (1, .ref (X.2.2 v1))] [] := by
  unfold f_X1_readLine_J56 at he
  refine z_aload_n S dX1_readLine_56 rfl 0 rfl ?_
  refine z_getF (j := 98) S fo_RX1_12 1 rfl rfl ok_97 dX1_readLine_57 ?_
  refine z_getWd S fo_RX1_22 rfl ok_98 he dX1_readLine_60 (fun q3 hq3 he => ?_)
  refine z_getW (i := 7) (j := 307) S (by decide) rfl rfl gw_RX1_67 dX1_readLine_63 ?_
  refine z_acmp_ne (tgt := 75) S hq3 (isW_add (i := 7) (by decide)) he dX1_readLine_66 (by decide) (fun he => ?_) (fun he => ?_)
  · refine z_aload_n S dX1_readLine_75 rfl 0 rfl ?_
    refine z_getF (j := 98) S fo_RX1_12 1 rfl rfl ok_97 dX1_readLine_76 ?_
    refine z_getWd S fo_RX1_22 rfl ok_98 he dX1_readLine_79 (fun q4 hq4 he => ?_)
    refine z_getW (i := 8) (j := 308) S (by decide) rfl rfl gw_RX1_73 dX1_readLine_82 ?_
    refine z_acmp_ne (tgt := 96) S hq4 (isW_add (i := 8) (by decide)) he dX1_readLine_85 (by decide) (fun he => ?_) (fun he => ?_)
    · refine z_aload_n S dX1_readLine_96 rfl 0 rfl ?_
      refine z_getF (j := 98) S fo_RX1_12 1 rfl rfl ok_97 dX1_readLine_97 ?_
      obtain ⟨⟨r5, M6⟩, h9, he⟩ := bnd he
      dsimp only at he
      refine z_cVI (As := []) S cv_RX1_42 (K_X7_refuse ok_98 (Option.some.inj h9)) ok_98 (by decide) (q := (RX7, TX7, 9)) rfl rfl ⟨rfl, rfl⟩ ⟨Nat.le_of_ble_eq_true rfl, Nat.le_of_ble_eq_true rfl⟩ ⟨Nat.le_refl _, Nat.le_refl _⟩ rfl rfl (Nat.le_of_ble_eq_true rfl) dX1_readLine_100 ?_
      exact z_zret S (Prod.mk.inj (Option.some.inj he)) dX1_readLine_103
    · refine z_aload_n S dX1_readLine_88 rfl 0 rfl ?_
      refine z_aload_n S dX1_readLine_89 rfl 1 rfl ?_
      obtain ⟨⟨r7, M8⟩, h9, he⟩ := bnd he
      dsimp only at he
      refine z_cVI (As := [.ref (X.2.2 v1)]) S cv_RX1_76 (K_X1_readCellar h_v1 h9) ok_97 (by decide) (q := (RX1, TX1, 2)) rfl rfl ⟨rfl, rfl⟩ ⟨Nat.le_of_ble_eq_true rfl, Nat.le_of_ble_eq_true rfl⟩ ⟨Nat.le_refl _, Nat.le_refl _⟩ rfl rfl (Nat.le_of_ble_eq_true rfl) dX1_readLine_90 ?_
      refine z_goto (tgt := 103) S dX1_readLine_93 (by decide) ?_
      exact z_zret S (Prod.mk.inj (Option.some.inj he)) dX1_readLine_103
  · refine z_aload_n S dX1_readLine_69 rfl 0 rfl ?_
    refine z_aload_n S dX1_readLine_70 rfl 1 rfl ?_
    obtain ⟨⟨r9, M10⟩, h9, he⟩ := bnd he
    dsimp only at he
    refine z_cVI (As := [.ref (X.2.2 v1)]) S cv_RX1_70 (K_X1_readSpeed h_v1 h9) ok_97 (by decide) (q := (RX1, TX1, 2)) rfl rfl ⟨rfl, rfl⟩ ⟨Nat.le_of_ble_eq_true rfl, Nat.le_of_ble_eq_true rfl⟩ ⟨Nat.le_refl _, Nat.le_refl _⟩ rfl rfl (Nat.le_of_ble_eq_true rfl) dX1_readLine_71 ?_
    exact z_zret S (Prod.mk.inj (Option.some.inj he)) dX1_readLine_74
set_option maxRecDepth 100000 in
set_option maxHeartbeats 4000000 in
theorem p_X1_readLine_J28 {X : Cx} {p : Program} {l : Launch} {e : Env} {s : State} {m : MethodId} {args : Array Value} {below : List Frame} {meth : Method} {c : Code} (S : SB X 0 p s m args meth c cX1_readLine 2 (some .boolean) RX1) {M : Mm} {N : Mm} {r : Bool} {v1 : Nat} (h_v1 : OK 0 v1 4) (he : f_X1_readLine_J28 M v1 = some (r, N)) : Z X 0 p l e rm_X1_readLine s m args below meth c 0 0 (MQ below (QI X 0 (bI r) N s.heap.size) args s 0 0 (AA X 0 s.heap.size)) 2 M 28 [(0, .ref (X.2.2 97)), (1, .ref (X.2.2 v1))] [] := by
  unfold f_X1_readLine_J28 at he
  refine z_aload_n S dX1_readLine_28 rfl 0 rfl ?_
  refine z_getF (j := 98) S fo_RX1_12 1 rfl rfl ok_97 dX1_readLine_29 ?_
  refine z_getWd S fo_RX1_22 rfl ok_98 he dX1_readLine_32 (fun q2 hq2 he => ?_)
  refine z_getW (i := 4) (j := 304) S (by decide) rfl rfl gw_RX1_58 dX1_readLine_35 ?_
  refine z_acmp_ne (tgt := 56) S hq2 (isW_add (i := 4) (by decide)) he dX1_readLine_38 (by decide) (fun he => ?_) (fun he => ?_)
  · exact p_X1_readLine_J56 S h_v1 he
  · refine z_aload_n S dX1_readLine_41 rfl 1 rfl ?_
    refine z_getI S fo_RX1_61 rfl h_v1 dX1_readLine_42 ?_
    refine z_bipush (v := 10) S dX1_readLine_45 (by decide) ?_
    refine z_icmp_ge (tgt := 56) S he dX1_readLine_47 (by decide) (fun he => ?_) (fun he => ?_)
    · exact p_X1_readLine_J56 S h_v1 he
    · refine z_aload_n S dX1_readLine_50 rfl 0 rfl ?_
      refine z_aload_n S dX1_readLine_51 rfl 1 rfl ?_
      obtain ⟨⟨r11, M12⟩, h9, he⟩ := bnd he
      dsimp only at he
      refine z_cVI (As := [.ref (X.2.2 v1)]) S cv_RX1_64 (K_X1_readVisitor h_v1 h9) ok_97 (by decide) (q := (RX1, TX1, 2)) rfl rfl ⟨rfl, rfl⟩ ⟨Nat.le_of_ble_eq_true rfl, Nat.le_of_ble_eq_true rfl⟩ ⟨Nat.le_refl _, Nat.le_refl _⟩ rfl rfl (Nat.le_of_ble_eq_true rfl) dX1_readLine_52 ?_
      exact z_zret S (Prod.mk.inj (Option.some.inj he)) dX1_readLine_55
set_option maxRecDepth 100000 in
set_option maxHeartbeats 4000000 in
theorem K_X1_readLine {X : Cx} {l : Launch} {M : Mm} {a1 : Nat} {r : Bool} {N : Mm} (h_a1 : OK 0 a1 4) (he : f_X1_readLine M a1 = some (r, N)) : KI X 0 l yX1_readLine (wz yX1_readLine cX1_readLine 2 (some .boolean)) rm_X1_readLine [.ref (X.2.2 97), .ref (X.2.2 a1)] M (bI r) N := by
  intro sz
  refine K_of (Qc := (fun sz => QI X 0 (bI r) N sz)) (own := RX1) (lv0 := [(0, .ref (X.2.2 97)), (1, .ref (X.2.2 a1))]) (by decide +kernel) rfl (Nat.le_of_ble_eq_true rfl) rfl (fun p e s m args below meth c S => ?_) sz
  · unfold f_X1_readLine at he
    refine z_aload_n S dX1_readLine_0 rfl 0 rfl ?_
    refine z_getF (j := 98) S fo_RX1_12 1 rfl rfl ok_97 dX1_readLine_1 ?_
    refine z_getWd S fo_RX1_22 rfl ok_98 he dX1_readLine_4 (fun q1 hq1 he => ?_)
    refine z_getW (i := 0) (j := 300) S (by decide) rfl rfl gw_RX1_46 dX1_readLine_7 ?_
    refine z_acmp_ne (tgt := 28) S hq1 (isW_add (i := 0) (by decide)) he dX1_readLine_10 (by decide) (fun he => ?_) (fun he => ?_)
    · exact p_X1_readLine_J28 S h_a1 he
    · refine z_aload_n S dX1_readLine_13 rfl 1 rfl ?_
      refine z_getI S fo_RX1_49 rfl h_a1 dX1_readLine_14 ?_
      refine z_bipush (v := 9) S dX1_readLine_17 (by decide) ?_
      refine z_icmp_ge (tgt := 28) S he dX1_readLine_19 (by decide) (fun he => ?_) (fun he => ?_)
      · exact p_X1_readLine_J28 S h_a1 he
      · refine z_aload_n S dX1_readLine_22 rfl 0 rfl ?_
        refine z_aload_n S dX1_readLine_23 rfl 1 rfl ?_
        obtain ⟨⟨r13, M14⟩, h9, he⟩ := bnd he
        dsimp only at he
        refine z_cVI (As := [.ref (X.2.2 a1)]) S cv_RX1_55 (K_X1_readThing h_a1 h9) ok_97 (by decide) (q := (RX1, TX1, 2)) rfl rfl ⟨rfl, rfl⟩ ⟨Nat.le_of_ble_eq_true rfl, Nat.le_of_ble_eq_true rfl⟩ ⟨Nat.le_refl _, Nat.le_refl _⟩ rfl rfl (Nat.le_of_ble_eq_true rfl) dX1_readLine_24 ?_
        exact z_zret S (Prod.mk.inj (Option.some.inj he)) dX1_readLine_27
set_option maxRecDepth 100000 in
set_option maxHeartbeats 4000000 in
theorem K_X2_clear {X : Cx} {l : Launch} {M : Mm} {a0 : Nat} {N : Mm} (h_a0 : OK 0 a0 2) (he : f_X2_clear M a0 = some N) : KV X 0 l yX2_clear (wz yX2_clear cX2_clear 1 none) rm_X2_clear [.ref (X.2.2 a0)] M N := by
  intro sz
  refine K_of (Qc := (fun sz => QV X 0 N sz)) (own := RX2) (lv0 := [(0, .ref (X.2.2 a0))]) (by decide +kernel) rfl (Nat.le_of_ble_eq_true rfl) rfl (fun p e s m args below meth c S => ?_) sz
  · unfold f_X2_clear at he
    refine z_aload_n S dX2_clear_0 rfl 0 rfl ?_
    refine z_iconst (v := 0) S dX2_clear_1 (by decide) ?_
    refine z_putIb S fo_RX2_31p rfl h_a0 rfl rfl he dX2_clear_2 (fun M1 he => ?_)
    refine z_aload_n S dX2_clear_5 rfl 0 rfl ?_
    refine z_iconst (v := 0) S dX2_clear_6 (by decide) ?_
    refine z_putIb S fo_RX2_27p rfl h_a0 rfl rfl he dX2_clear_7 (fun M2 he => ?_)
    exact z_vret S (Option.some.inj he) dX2_clear_10
set_option maxRecDepth 100000 in
set_option maxHeartbeats 4000000 in
theorem K_X3_leaveOpen {X : Cx} {l : Launch} {M : Mm} {a1 : Int32} {N : Mm}  (he : f_X3_leaveOpen M a1 = some N) : KV X 0 l yX3_leaveOpen (wz yX3_leaveOpen cX3_leaveOpen 2 none) rm_X3_leaveOpen [.ref (X.2.2 102), .int a1] M N := by
  intro sz
  refine K_of (Qc := (fun sz => QV X 0 N sz)) (own := RX3) (lv0 := [(0, .ref (X.2.2 102)), (1, .int a1)]) (by decide +kernel) rfl (Nat.le_of_ble_eq_true rfl) rfl (fun p e s m args below meth c S => ?_) sz
  · unfold f_X3_leaveOpen at he
    refine z_aload_n S dX3_leaveOpen_0 rfl 0 rfl ?_
    refine z_getF (j := 103) S fo_RX3_20 1 rfl rfl ok_102 dX3_leaveOpen_1 ?_
    refine z_aload_n S dX3_leaveOpen_4 rfl 0 rfl ?_
    refine z_getI S fo_RX3_80 rfl ok_102 dX3_leaveOpen_5 ?_
    refine z_iload_n S dX3_leaveOpen_8 rfl 1 rfl ?_
    obtain ⟨M1, h9, he⟩ := bnd he
    refine z_cNV (As := [.ref (X.2.2 103), .int (gI M 102 2), .int a1]) S cn_RX3_120 (K_X9_put ok_103 h9) ⟨rfl, rfl⟩ ⟨Nat.le_of_ble_eq_true rfl, Nat.le_of_ble_eq_true rfl⟩ ⟨Nat.le_refl _, Nat.le_refl _⟩ rfl rfl (Nat.le_of_ble_eq_true rfl) dX3_leaveOpen_9 ?_
    refine z_aload_n S dX3_leaveOpen_12 rfl 0 rfl ?_
    refine z_dup S rfl dX3_leaveOpen_13 ?_
    refine z_getI S fo_RX3_80 rfl ok_102 dX3_leaveOpen_14 ?_
    refine z_iconst (v := 1) S dX3_leaveOpen_17 (by decide) ?_
    refine z_iadd S dX3_leaveOpen_18 ?_
    refine z_putIb S fo_RX3_80p rfl ok_102 rfl rfl he dX3_leaveOpen_19 (fun M2 he => ?_)
    exact z_vret S (Option.some.inj he) dX3_leaveOpen_22
set_option maxRecDepth 100000 in
set_option maxHeartbeats 4000000 in
theorem p_X3_readOpenings_J2_84 {X : Cx} {p : Program} {l : Launch} {e : Env} {s : State} {m : MethodId} {args : Array Value} {below : List Frame} {meth : Method} {c : Code} (S : SB X 0 p s m args meth c cX3_readOpenings 2 (some .boolean) RX3) {M : Mm} {N : Mm} {r : Bool} {v1 : Int32} {t0 : Int32} {x : (Mm × Int32) ⊕ ((Bool × Mm) ⊕ Mm)}  (he : f_X3_readOpenings_J2_84 M v1 t0 = some x) (hc : ∀ b, x = .inl b → Z X 0 p l e rm_X3_readOpenings s m args below meth c 0 0 (MQ below (QI X 0 (bI r) N s.heap.size) args s 0 0 (AA X 0 s.heap.size)) 2 b.1 2 [(0, .ref (X.2.2 102)), (1, .int b.2)] []) (hx : ∀ b, x = .inr (.inr b) → Z X 0 p l e rm_X3_readOpenings s m args below meth c 0 0 (MQ below (QI X 0 (bI r) N s.heap.size) args s 0 0 (AA X 0 s.heap.size)) 2 b 100 [] []) (hr : ∀ v, x = .inr (.inl v) → v = (r, N)) : Z X 0 p l e rm_X3_readOpenings s m args below meth c 0 0 (MQ below (QI X 0 (bI r) N s.heap.size) args s 0 0 (AA X 0 s.heap.size)) 2 M 84 [(0, .ref (X.2.2 102)), (1, .int v1)] [.int t0, .ref (X.2.2 102)] := by
  unfold f_X3_readOpenings_J2_84 at he
  obtain ⟨M4, h9, he⟩ := bnd he
  refine z_cVV (As := [.int t0]) S cv_RX3_104 (K_X3_leaveOpen  h9) ok_102 (by decide) (q := (RX3, TX3, 4)) rfl rfl ⟨rfl, rfl⟩ ⟨Nat.le_of_ble_eq_true rfl, Nat.le_of_ble_eq_true rfl⟩ ⟨Nat.le_refl _, Nat.le_refl _⟩ rfl rfl (Nat.le_of_ble_eq_true rfl) dX3_readOpenings_84 ?_
  refine z_aload_n S dX3_readOpenings_87 rfl 0 rfl ?_
  refine z_getF (j := 104) S fo_RX3_14 2 rfl rfl ok_102 dX3_readOpenings_88 ?_
  obtain ⟨M5, h9, he⟩ := bnd he
  refine z_cVV (As := []) S cv_RX3_67 (K_X7_next ok_104 h9) ok_104 (by decide) (q := (RX7, TX7, 9)) rfl rfl ⟨rfl, rfl⟩ ⟨Nat.le_of_ble_eq_true rfl, Nat.le_of_ble_eq_true rfl⟩ ⟨Nat.le_refl _, Nat.le_refl _⟩ rfl rfl (Nat.le_of_ble_eq_true rfl) dX3_readOpenings_91 ?_
  refine z_iinc (v := (v1 + 1)) (lv' := [(0, .ref (X.2.2 102)), (1, .int (v1 + 1))]) S [1, 0] 1 dX3_readOpenings_94 rfl (by rfl) (by decide) rfl ?_
  refine z_goto (tgt := 2) S dX3_readOpenings_97 (by decide) ?_
  refine z_lv (ks := [0, 1]) rfl ?_
  exact hc _ (Option.some.inj he).symm
set_option maxRecDepth 100000 in
set_option maxHeartbeats 4000000 in
theorem p_X3_readOpenings_J2_34 {X : Cx} {p : Program} {l : Launch} {e : Env} {s : State} {m : MethodId} {args : Array Value} {below : List Frame} {meth : Method} {c : Code} (S : SB X 0 p s m args meth c cX3_readOpenings 2 (some .boolean) RX3) {M : Mm} {N : Mm} {r : Bool} {v1 : Int32} {x : (Mm × Int32) ⊕ ((Bool × Mm) ⊕ Mm)}  (he : f_X3_readOpenings_J2_34 M v1 = some x) (hc : ∀ b, x = .inl b → Z X 0 p l e rm_X3_readOpenings s m args below meth c 0 0 (MQ below (QI X 0 (bI r) N s.heap.size) args s 0 0 (AA X 0 s.heap.size)) 2 b.1 2 [(0, .ref (X.2.2 102)), (1, .int b.2)] []) (hx : ∀ b, x = .inr (.inr b) → Z X 0 p l e rm_X3_readOpenings s m args below meth c 0 0 (MQ below (QI X 0 (bI r) N s.heap.size) args s 0 0 (AA X 0 s.heap.size)) 2 b 100 [] []) (hr : ∀ v, x = .inr (.inl v) → v = (r, N)) : Z X 0 p l e rm_X3_readOpenings s m args below meth c 0 0 (MQ below (QI X 0 (bI r) N s.heap.size) args s 0 0 (AA X 0 s.heap.size)) 2 M 34 [(0, .ref (X.2.2 102)), (1, .int v1)] [] := by
  unfold f_X3_readOpenings_J2_34 at he
  refine z_aload_n S dX3_readOpenings_34 rfl 0 rfl ?_
  refine z_getI S fo_RX3_84 rfl ok_102 dX3_readOpenings_35 ?_
  refine z_bipush (v := 6) S dX3_readOpenings_38 (by decide) ?_
  refine z_icmp_lt (tgt := 51) S he dX3_readOpenings_40 (by decide) (fun he => ?_) (fun he => ?_)
  · refine z_aload_n S dX3_readOpenings_51 rfl 0 rfl ?_
    refine z_dup S rfl dX3_readOpenings_52 ?_
    refine z_getI S fo_RX3_84 rfl ok_102 dX3_readOpenings_53 ?_
    refine z_iconst (v := 1) S dX3_readOpenings_56 (by decide) ?_
    refine z_iadd S dX3_readOpenings_57 ?_
    refine z_putIb S fo_RX3_84p rfl ok_102 rfl rfl he dX3_readOpenings_58 (fun M2 he => ?_)
    refine z_aload_n S dX3_readOpenings_61 rfl 0 rfl ?_
    refine z_aload_n S dX3_readOpenings_62 rfl 0 rfl ?_
    refine z_getF (j := 104) S fo_RX3_14 2 rfl rfl ok_102 dX3_readOpenings_63 ?_
    refine z_getWd S fo_RX3_30 rfl ok_104 he dX3_readOpenings_66 (fun q3 hq3 he => ?_)
    refine z_getW (i := 13) (j := 313) S (by decide) rfl rfl gw_RX3_111 dX3_readOpenings_69 ?_
    refine z_acmp_ne (tgt := 81) S hq3 (isW_add (i := 13) (by decide)) he dX3_readOpenings_72 (by decide) (fun he => ?_) (fun he => ?_)
    · refine z_sipush (v := 1026) S dX3_readOpenings_81 (by decide) ?_
      exact p_X3_readOpenings_J2_84 S  he hc hx hr
    · refine z_sipush (v := 1023) S dX3_readOpenings_75 (by decide) ?_
      refine z_goto (tgt := 84) S dX3_readOpenings_78 (by decide) ?_
      exact p_X3_readOpenings_J2_84 S  he hc hx hr
  · refine z_aload_n S dX3_readOpenings_43 rfl 0 rfl ?_
    refine z_getF (j := 104) S fo_RX3_14 2 rfl rfl ok_102 dX3_readOpenings_44 ?_
    obtain ⟨⟨r6, M7⟩, h9, he⟩ := bnd he
    dsimp only at he
    refine z_cVI (As := []) S cv_RX3_50 (K_X7_refuse ok_104 (Option.some.inj h9)) ok_104 (by decide) (q := (RX7, TX7, 9)) rfl rfl ⟨rfl, rfl⟩ ⟨Nat.le_of_ble_eq_true rfl, Nat.le_of_ble_eq_true rfl⟩ ⟨Nat.le_refl _, Nat.le_refl _⟩ rfl rfl (Nat.le_of_ble_eq_true rfl) dX3_readOpenings_47 ?_
    exact z_zret S (Prod.mk.inj (hr _ (Option.some.inj he).symm)) dX3_readOpenings_50
set_option maxRecDepth 100000 in
set_option maxHeartbeats 4000000 in
theorem p_X3_readOpenings_L2 {X : Cx} {p : Program} {l : Launch} {e : Env} {s : State} {m : MethodId} {args : Array Value} {below : List Frame} {meth : Method} {c : Code} (S : SB X 0 p s m args meth c cX3_readOpenings 2 (some .boolean) RX3) {M : Mm} {N : Mm} {r : Bool} {v1 : Int32} {x : (Mm × Int32) ⊕ ((Bool × Mm) ⊕ Mm)}  (he : f_X3_readOpenings_L2 M v1 = some x) (hc : ∀ b, x = .inl b → Z X 0 p l e rm_X3_readOpenings s m args below meth c 0 0 (MQ below (QI X 0 (bI r) N s.heap.size) args s 0 0 (AA X 0 s.heap.size)) 2 b.1 2 [(0, .ref (X.2.2 102)), (1, .int b.2)] []) (hx : ∀ b, x = .inr (.inr b) → Z X 0 p l e rm_X3_readOpenings s m args below meth c 0 0 (MQ below (QI X 0 (bI r) N s.heap.size) args s 0 0 (AA X 0 s.heap.size)) 2 b 100 [] []) (hr : ∀ v, x = .inr (.inl v) → v = (r, N)) : Z X 0 p l e rm_X3_readOpenings s m args below meth c 0 0 (MQ below (QI X 0 (bI r) N s.heap.size) args s 0 0 (AA X 0 s.heap.size)) 2 M 2 [(0, .ref (X.2.2 102)), (1, .int v1)] [] := by
  unfold f_X3_readOpenings_L2 at he
  refine z_iload_n S dX3_readOpenings_2 rfl 1 rfl ?_
  refine z_bipush (v := 6) S dX3_readOpenings_3 (by decide) ?_
  refine z_icmp_gt (tgt := 100) S he dX3_readOpenings_5 (by decide) (fun he => ?_) (fun he => ?_)
  · refine z_lv (ks := []) rfl ?_
    exact hx _ (Option.some.inj he).symm
  · refine z_aload_n S dX3_readOpenings_8 rfl 0 rfl ?_
    refine z_getF (j := 104) S fo_RX3_14 2 rfl rfl ok_102 dX3_readOpenings_9 ?_
    refine z_getWd S fo_RX3_30 rfl ok_104 he dX3_readOpenings_12 (fun q1 hq1 he => ?_)
    refine z_getW (i := 13) (j := 313) S (by decide) rfl rfl gw_RX3_111 dX3_readOpenings_15 ?_
    refine z_acmp_eq (tgt := 34) S hq1 (isW_add (i := 13) (by decide)) he dX3_readOpenings_18 (by decide) (fun he => ?_) (fun he => ?_)
    · exact p_X3_readOpenings_J2_34 S  he hc hx hr
    · refine z_aload_n S dX3_readOpenings_21 rfl 0 rfl ?_
      refine z_getF (j := 104) S fo_RX3_14 2 rfl rfl ok_102 dX3_readOpenings_22 ?_
      refine z_getWd S fo_RX3_30 rfl ok_104 he dX3_readOpenings_25 (fun q8 hq8 he => ?_)
      refine z_getW (i := 23) (j := 323) S (by decide) rfl rfl gw_RX3_114 dX3_readOpenings_28 ?_
      refine z_acmp_ne (tgt := 100) S hq8 (isW_add (i := 23) (by decide)) he dX3_readOpenings_31 (by decide) (fun he => ?_) (fun he => ?_)
      · refine z_lv (ks := []) rfl ?_
        exact hx _ (Option.some.inj he).symm
      · exact p_X3_readOpenings_J2_34 S  he hc hx hr
set_option maxRecDepth 100000 in
set_option maxHeartbeats 4000000 in
theorem K_X3_readOpenings {X : Cx} {l : Launch} {M : Mm} {r : Bool} {N : Mm}  (he : f_X3_readOpenings M  = some (r, N)) : KI X 0 l yX3_readOpenings (wz yX3_readOpenings cX3_readOpenings 2 (some .boolean)) rm_X3_readOpenings [.ref (X.2.2 102)] M (bI r) N := by
  intro sz
  refine K_of (Qc := (fun sz => QI X 0 (bI r) N sz)) (own := RX3) (lv0 := [(0, .ref (X.2.2 102))]) (by decide +kernel) rfl (Nat.le_of_ble_eq_true rfl) rfl (fun p e s m args below meth c S => ?_) sz
  · unfold f_X3_readOpenings at he
    refine z_iconst (v := 0) S dX3_readOpenings_0 (by decide) ?_
    refine z_istore_n (lv' := [(0, .ref (X.2.2 102)), (1, .int 0)]) S [1, 0] dX3_readOpenings_1 rfl (by decide) rfl ?_
    obtain ⟨r9, hl, hr1, hr2⟩ := bndS he
    have hX : ∀ e_9, r9 = .inr e_9 → Z X 0 p l e rm_X3_readOpenings s m args below meth c 0 0 (MQ below (QI X 0 (bI r) N s.heap.size) args s 0 0 (AA X 0 s.heap.size)) 2 e_9 100 [] [] := by
      intro e_9 hre
      have he := hr2 e_9 hre
      refine z_iconst (v := 1) S dX3_readOpenings_100 (by decide) ?_
      exact z_zret1 S (Prod.mk.inj (Option.some.inj he)) dX3_readOpenings_101
    exact loopZ (Zh := (fun a_9 => Z X 0 p l e rm_X3_readOpenings s m args below meth c 0 0 (MQ below (QI X 0 (bI r) N s.heap.size) args s 0 0 (AA X 0 s.heap.size)) 2 a_9.1 2 [(0, .ref (X.2.2 102)), (1, .int a_9.2)] [])) (fun a_9 x hb hc hr9 => p_X3_readOpenings_L2 S  hb hc (fun b hxe => hX b (hr9 _ hxe).symm) (fun v hxv => Option.some.inj (hr1 v (hr9 _ hxv).symm))) FU _ hl
set_option maxRecDepth 100000 in
set_option maxHeartbeats 4000000 in
theorem K_X2_addOperation {X : Cx} {l : Launch} {M : Mm} {a0 : Nat} {a1 : Int32} {N : Mm} (h_a0 : OK 0 a0 2) (he : f_X2_addOperation M a0 a1 = some N) : KV X 0 l yX2_addOperation (wz yX2_addOperation cX2_addOperation 2 none) rm_X2_addOperation [.ref (X.2.2 a0), .int a1] M N := by
  intro sz
  refine K_of (Qc := (fun sz => QV X 0 N sz)) (own := RX2) (lv0 := [(0, .ref (X.2.2 a0)), (1, .int a1)]) (by decide +kernel) rfl (Nat.le_of_ble_eq_true rfl) rfl (fun p e s m args below meth c S => ?_) sz
  · unfold f_X2_addOperation at he
    refine z_aload_n S dX2_addOperation_0 rfl 0 rfl ?_
    refine z_getF (j := (a0 + 4)) S fo_RX2_21 4 rfl rfl h_a0 dX2_addOperation_1 ?_
    refine z_aload_n S dX2_addOperation_4 rfl 0 rfl ?_
    refine z_getI S fo_RX2_31 rfl h_a0 dX2_addOperation_5 ?_
    refine z_iload_n S dX2_addOperation_8 rfl 1 rfl ?_
    obtain ⟨M1, h9, he⟩ := bnd he
    refine z_cNV (As := [.ref (X.2.2 (a0 + 4)), .int (gI M a0 5), .int a1]) S cn_RX2_40 (K_X9_put (okf2_4 h_a0).1 h9) ⟨rfl, rfl⟩ ⟨Nat.le_of_ble_eq_true rfl, Nat.le_of_ble_eq_true rfl⟩ ⟨Nat.le_refl _, Nat.le_refl _⟩ rfl rfl (Nat.le_of_ble_eq_true rfl) dX2_addOperation_9 ?_
    refine z_aload_n S dX2_addOperation_12 rfl 0 rfl ?_
    refine z_dup S rfl dX2_addOperation_13 ?_
    refine z_getI S fo_RX2_31 rfl h_a0 dX2_addOperation_14 ?_
    refine z_iconst (v := 1) S dX2_addOperation_17 (by decide) ?_
    refine z_iadd S dX2_addOperation_18 ?_
    refine z_putIb S fo_RX2_31p rfl h_a0 rfl rfl he dX2_addOperation_19 (fun M2 he => ?_)
    exact z_vret S (Option.some.inj he) dX2_addOperation_22
set_option maxRecDepth 100000 in
set_option maxHeartbeats 4000000 in
theorem p_X3_readSum_J2_44 {X : Cx} {p : Program} {l : Launch} {e : Env} {s : State} {m : MethodId} {args : Array Value} {below : List Frame} {meth : Method} {c : Code} (S : SB X 0 p s m args meth c cX3_readSum 5 (some .boolean) RX3) {M : Mm} {N : Mm} {r : Bool} {v1 : Nat} {v2 : Int32} {t0 : Int32} {x : (Mm × Int32) ⊕ ((Bool × Mm) ⊕ Mm)} (h_v1 : OK 0 v1 2) (he : f_X3_readSum_J2_44 M v1 v2 t0 = some x) (hc : ∀ b, x = .inl b → Z X 0 p l e rm_X3_readSum s m args below meth c 0 0 (MQ below (QI X 0 (bI r) N s.heap.size) args s 0 0 (AA X 0 s.heap.size)) 5 b.1 2 [(0, .ref (X.2.2 102)), (1, .ref (X.2.2 v1)), (2, .int b.2)] []) (hx : ∀ b, x = .inr (.inr b) → Z X 0 p l e rm_X3_readSum s m args below meth c 0 0 (MQ below (QI X 0 (bI r) N s.heap.size) args s 0 0 (AA X 0 s.heap.size)) 5 b 94 [(0, .ref (X.2.2 102))] []) (hr : ∀ v, x = .inr (.inl v) → v = (r, N)) : Z X 0 p l e rm_X3_readSum s m args below meth c 0 0 (MQ below (QI X 0 (bI r) N s.heap.size) args s 0 0 (AA X 0 s.heap.size)) 5 M 44 [(0, .ref (X.2.2 102)), (1, .ref (X.2.2 v1)), (2, .int v2)] [.int t0] := by
  unfold f_X3_readSum_J2_44 at he
  refine z_istore (lv' := [(0, .ref (X.2.2 102)), (1, .ref (X.2.2 v1)), (2, .int v2), (4, .int t0)]) S [1, 2, 3, 0] dX3_readSum_44 (by decide) rfl ?_
  refine z_iload S dX3_readSum_46 3 rfl ?_
  refine z_iconst (v := (-1)) S dX3_readSum_48 (by decide) ?_
  refine z_icmp_ne (tgt := 60) S he dX3_readSum_49 (by decide) (fun he => ?_) (fun he => ?_)
  · refine z_aload_n S dX3_readSum_60 rfl 1 rfl ?_
    refine z_iload S dX3_readSum_61 3 rfl ?_
    obtain ⟨M2, h9, he⟩ := bnd he
    refine z_cVV (As := [.int t0]) S cv_RX3_128 (K_X2_addOperation h_v1 h9) h_v1 (by decide) (q := (RX2, TX2, 7)) rfl rfl ⟨rfl, rfl⟩ ⟨Nat.le_of_ble_eq_true rfl, Nat.le_of_ble_eq_true rfl⟩ ⟨Nat.le_refl _, Nat.le_refl _⟩ rfl rfl (Nat.le_of_ble_eq_true rfl) dX3_readSum_63 ?_
    refine z_aload_n S dX3_readSum_66 rfl 0 rfl ?_
    refine z_getF (j := 104) S fo_RX3_14 2 rfl rfl ok_102 dX3_readSum_67 ?_
    obtain ⟨M3, h9, he⟩ := bnd he
    refine z_cVV (As := []) S cv_RX3_67 (K_X7_next ok_104 h9) ok_104 (by decide) (q := (RX7, TX7, 9)) rfl rfl ⟨rfl, rfl⟩ ⟨Nat.le_of_ble_eq_true rfl, Nat.le_of_ble_eq_true rfl⟩ ⟨Nat.le_refl _, Nat.le_refl _⟩ rfl rfl (Nat.le_of_ble_eq_true rfl) dX3_readSum_70 ?_
    refine z_aload_n S dX3_readSum_73 rfl 0 rfl ?_
    refine z_getF (j := 104) S fo_RX3_14 2 rfl rfl ok_102 dX3_readSum_74 ?_
    refine z_getW (i := 27) (j := 327) S (by decide) rfl rfl gw_RX3_156 dX3_readSum_77 ?_
    obtain ⟨⟨r4, M5⟩, h9, he⟩ := bnd he
    dsimp only at he
    refine z_cVI (As := [.ref (X.2.2 327)]) S cv_RX3_46 (K_X7_skip ok_104 (isW_add (i := 27) (by decide)) h9) ok_104 (by decide) (q := (RX7, TX7, 9)) rfl rfl ⟨rfl, rfl⟩ ⟨Nat.le_of_ble_eq_true rfl, Nat.le_of_ble_eq_true rfl⟩ ⟨Nat.le_refl _, Nat.le_refl _⟩ rfl rfl (Nat.le_of_ble_eq_true rfl) dX3_readSum_80 ?_
    refine z_ifb_ne (tgt := 88) S he dX3_readSum_83 (by decide) (fun he => ?_) (fun he => ?_)
    · refine z_iinc (v := (v2 + 1)) (lv' := [(0, .ref (X.2.2 102)), (1, .ref (X.2.2 v1)), (2, .int (v2 + 1)), (4, .int t0)]) S [1, 2, 0, 3] 2 dX3_readSum_88 rfl (by rfl) (by decide) rfl ?_
      refine z_goto (tgt := 2) S dX3_readSum_91 (by decide) ?_
      refine z_lv (ks := [0, 1, 2]) rfl ?_
      exact hc _ (Option.some.inj he).symm
    · refine z_iconst (v := 1) S dX3_readSum_86 (by decide) ?_
      exact z_zret1 S (Prod.mk.inj (hr _ (Option.some.inj he).symm)) dX3_readSum_87
  · refine z_aload_n S dX3_readSum_52 rfl 0 rfl ?_
    refine z_getF (j := 104) S fo_RX3_14 2 rfl rfl ok_102 dX3_readSum_53 ?_
    obtain ⟨⟨r6, M7⟩, h9, he⟩ := bnd he
    dsimp only at he
    refine z_cVI (As := []) S cv_RX3_50 (K_X7_refuse ok_104 (Option.some.inj h9)) ok_104 (by decide) (q := (RX7, TX7, 9)) rfl rfl ⟨rfl, rfl⟩ ⟨Nat.le_of_ble_eq_true rfl, Nat.le_of_ble_eq_true rfl⟩ ⟨Nat.le_refl _, Nat.le_refl _⟩ rfl rfl (Nat.le_of_ble_eq_true rfl) dX3_readSum_56 ?_
    exact z_zret S (Prod.mk.inj (hr _ (Option.some.inj he).symm)) dX3_readSum_59
set_option maxRecDepth 100000 in
set_option maxHeartbeats 4000000 in
theorem p_X3_readSum_L2 {X : Cx} {p : Program} {l : Launch} {e : Env} {s : State} {m : MethodId} {args : Array Value} {below : List Frame} {meth : Method} {c : Code} (S : SB X 0 p s m args meth c cX3_readSum 5 (some .boolean) RX3) {M : Mm} {N : Mm} {r : Bool} {v1 : Nat} {v2 : Int32} {x : (Mm × Int32) ⊕ ((Bool × Mm) ⊕ Mm)} (h_v1 : OK 0 v1 2) (he : f_X3_readSum_L2 M v1 v2 = some x) (hc : ∀ b, x = .inl b → Z X 0 p l e rm_X3_readSum s m args below meth c 0 0 (MQ below (QI X 0 (bI r) N s.heap.size) args s 0 0 (AA X 0 s.heap.size)) 5 b.1 2 [(0, .ref (X.2.2 102)), (1, .ref (X.2.2 v1)), (2, .int b.2)] []) (hx : ∀ b, x = .inr (.inr b) → Z X 0 p l e rm_X3_readSum s m args below meth c 0 0 (MQ below (QI X 0 (bI r) N s.heap.size) args s 0 0 (AA X 0 s.heap.size)) 5 b 94 [(0, .ref (X.2.2 102))] []) (hr : ∀ v, x = .inr (.inl v) → v = (r, N)) : Z X 0 p l e rm_X3_readSum s m args below meth c 0 0 (MQ below (QI X 0 (bI r) N s.heap.size) args s 0 0 (AA X 0 s.heap.size)) 5 M 2 [(0, .ref (X.2.2 102)), (1, .ref (X.2.2 v1)), (2, .int v2)] [] := by
  unfold f_X3_readSum_L2 at he
  refine z_iload_n S dX3_readSum_2 rfl 2 rfl ?_
  refine z_sipush (v := 400) S dX3_readSum_3 (by decide) ?_
  refine z_icmp_ge (tgt := 94) S he dX3_readSum_6 (by decide) (fun he => ?_) (fun he => ?_)
  · refine z_lv (ks := [0]) rfl ?_
    exact hx _ (Option.some.inj he).symm
  · refine z_aload_n S dX3_readSum_9 rfl 0 rfl ?_
    refine z_getF (j := 104) S fo_RX3_14 2 rfl rfl ok_102 dX3_readSum_10 ?_
    refine z_getWd S fo_RX3_30 rfl ok_104 he dX3_readSum_13 (fun q1 hq1 he => ?_)
    refine z_part S hq1 gs_RX3_153 dX3_readSum_16 ?_
    refine z_istore_n (lv' := [(0, .ref (X.2.2 102)), (1, .ref (X.2.2 v1)), (2, .int v2), (3, .int (ptq q1))]) S [1, 2, 3, 0] dX3_readSum_19 rfl (by decide) rfl ?_
    refine z_iload_n S dX3_readSum_20 rfl 3 rfl ?_
    refine z_iconst (v := (-1)) S dX3_readSum_21 (by decide) ?_
    refine z_icmp_ne (tgt := 39) S he dX3_readSum_22 (by decide) (fun he => ?_) (fun he => ?_)
    · refine z_sipush (v := 1000) S dX3_readSum_39 (by decide) ?_
      refine z_iload_n S dX3_readSum_42 rfl 3 rfl ?_
      refine z_iadd S dX3_readSum_43 ?_
      refine z_lv (ks := [0, 1, 2]) rfl ?_
      exact p_X3_readSum_J2_44 S h_v1 he hc hx hr
    · refine z_aload_n S dX3_readSum_25 rfl 0 rfl ?_
      refine z_getF (j := 104) S fo_RX3_14 2 rfl rfl ok_102 dX3_readSum_26 ?_
      refine z_iconst (v := 0) S dX3_readSum_29 (by decide) ?_
      refine z_sipush (v := 999) S dX3_readSum_30 (by decide) ?_
      obtain ⟨r8, h9, he⟩ := bnd he
      refine z_cVI (As := [.int 0, .int 999]) S cv_RX3_60 (K_X7_numberWithin ok_104 h9) ok_104 (by decide) (q := (RX7, TX7, 9)) rfl rfl ⟨rfl, rfl⟩ ⟨Nat.le_of_ble_eq_true rfl, Nat.le_of_ble_eq_true rfl⟩ ⟨Nat.le_refl _, Nat.le_refl _⟩ rfl rfl (Nat.le_of_ble_eq_true rfl) dX3_readSum_33 ?_
      refine z_goto (tgt := 44) S dX3_readSum_36 (by decide) ?_
      refine z_lv (ks := [0, 1, 2]) rfl ?_
      exact p_X3_readSum_J2_44 S h_v1 he hc hx hr
set_option maxRecDepth 100000 in
set_option maxHeartbeats 4000000 in
theorem K_X3_readSum {X : Cx} {l : Launch} {M : Mm} {a1 : Nat} {r : Bool} {N : Mm} (h_a1 : OK 0 a1 2) (he : f_X3_readSum M a1 = some (r, N)) : KI X 0 l yX3_readSum (wz yX3_readSum cX3_readSum 5 (some .boolean)) rm_X3_readSum [.ref (X.2.2 102), .ref (X.2.2 a1)] M (bI r) N := by
  intro sz
  refine K_of (Qc := (fun sz => QI X 0 (bI r) N sz)) (own := RX3) (lv0 := [(0, .ref (X.2.2 102)), (1, .ref (X.2.2 a1))]) (by decide +kernel) rfl (Nat.le_of_ble_eq_true rfl) rfl (fun p e s m args below meth c S => ?_) sz
  · unfold f_X3_readSum at he
    refine z_iconst (v := 0) S dX3_readSum_0 (by decide) ?_
    refine z_istore_n (lv' := [(0, .ref (X.2.2 102)), (1, .ref (X.2.2 a1)), (2, .int 0)]) S [1, 2, 0] dX3_readSum_1 rfl (by decide) rfl ?_
    obtain ⟨r9, hl, hr1, hr2⟩ := bndS he
    have hX : ∀ e_9, r9 = .inr e_9 → Z X 0 p l e rm_X3_readSum s m args below meth c 0 0 (MQ below (QI X 0 (bI r) N s.heap.size) args s 0 0 (AA X 0 s.heap.size)) 5 e_9 94 [(0, .ref (X.2.2 102))] [] := by
      intro e_9 hre
      have he := hr2 e_9 hre
      refine z_aload_n S dX3_readSum_94 rfl 0 rfl ?_
      refine z_getF (j := 104) S fo_RX3_14 2 rfl rfl ok_102 dX3_readSum_95 ?_
      obtain ⟨⟨r10, M11⟩, h9, he⟩ := bnd he
      dsimp only at he
      refine z_cVI (As := []) S cv_RX3_50 (K_X7_refuse ok_104 (Option.some.inj h9)) ok_104 (by decide) (q := (RX7, TX7, 9)) rfl rfl ⟨rfl, rfl⟩ ⟨Nat.le_of_ble_eq_true rfl, Nat.le_of_ble_eq_true rfl⟩ ⟨Nat.le_refl _, Nat.le_refl _⟩ rfl rfl (Nat.le_of_ble_eq_true rfl) dX3_readSum_98 ?_
      exact z_zret S (Prod.mk.inj (Option.some.inj he)) dX3_readSum_101
    exact loopZ (Zh := (fun a_9 => Z X 0 p l e rm_X3_readSum s m args below meth c 0 0 (MQ below (QI X 0 (bI r) N s.heap.size) args s 0 0 (AA X 0 s.heap.size)) 5 a_9.1 2 [(0, .ref (X.2.2 102)), (1, .ref (X.2.2 a1)), (2, .int a_9.2)] [])) (fun a_9 x hb hc hr9 => p_X3_readSum_L2 S h_a1 hb hc (fun b hxe => hX b (hr9 _ hxe).symm) (fun v hxv => Option.some.inj (hr1 v (hr9 _ hxv).symm))) FU _ hl
set_option maxRecDepth 100000 in
set_option maxHeartbeats 4000000 in
theorem p_X3_readAtom_J119 {X : Cx} {p : Program} {l : Launch} {e : Env} {s : State} {m : MethodId} {args : Array Value} {below : List Frame} {meth : Method} {c : Code} (S : SB X 0 p s m args meth c cX3_readAtom 4 (some .boolean) RX3) {M : Mm} {N : Mm} {r : Bool} {t0 : Int32} {t1 : Nat} (h_t1 : OK 0 t1 2) (he : f_X3_readAtom_J119 M t0 t1 = some (r, N)) : Z X 0 p l e rm_X3_readAtom s m args below meth c 0 0 (MQ below (QI X 0 (bI r) N s.heap.size) args s 0 0 (AA X 0 s.heap.size)) 4 M 119 [] [.int t0, .ref (X.2.2 t1)] := by
  unfold f_X3_readAtom_J119 at he
  obtain ⟨M9, h9, he⟩ := bnd he
  refine z_cVV (As := [.int t0]) S cv_RX3_128 (K_X2_addOperation h_t1 h9) h_t1 (by decide) (q := (RX2, TX2, 7)) rfl rfl ⟨rfl, rfl⟩ ⟨Nat.le_of_ble_eq_true rfl, Nat.le_of_ble_eq_true rfl⟩ ⟨Nat.le_refl _, Nat.le_refl _⟩ rfl rfl (Nat.le_of_ble_eq_true rfl) dX3_readAtom_119 ?_
  refine z_iconst (v := 1) S dX3_readAtom_122 (by decide) ?_
  exact z_zret1 S (Prod.mk.inj (Option.some.inj he)) dX3_readAtom_123
set_option maxRecDepth 100000 in
set_option maxHeartbeats 4000000 in
theorem p_X3_readAtom_J88 {X : Cx} {p : Program} {l : Launch} {e : Env} {s : State} {m : MethodId} {args : Array Value} {below : List Frame} {meth : Method} {c : Code} (S : SB X 0 p s m args meth c cX3_readAtom 4 (some .boolean) RX3) {M : Mm} {N : Mm} {r : Bool} {v1 : Nat} {v3 : Int32} (h_v1 : OK 0 v1 2) (he : f_X3_readAtom_J88 M v1 v3 = some (r, N)) : Z X 0 p l e rm_X3_readAtom s m args below meth c 0 0 (MQ below (QI X 0 (bI r) N s.heap.size) args s 0 0 (AA X 0 s.heap.size)) 4 M 88 [(0, .ref (X.2.2 102)), (1, .ref (X.2.2 v1)), (3, .int v3)] [] := by
  unfold f_X3_readAtom_J88 at he
  refine z_aload_n S dX3_readAtom_88 rfl 1 rfl ?_
  refine z_sipush (v := 1020) S dX3_readAtom_89 (by decide) ?_
  obtain ⟨M6, h9, he⟩ := bnd he
  refine z_cVV (As := [.int 1020]) S cv_RX3_128 (K_X2_addOperation h_v1 h9) h_v1 (by decide) (q := (RX2, TX2, 7)) rfl rfl ⟨rfl, rfl⟩ ⟨Nat.le_of_ble_eq_true rfl, Nat.le_of_ble_eq_true rfl⟩ ⟨Nat.le_refl _, Nat.le_refl _⟩ rfl rfl (Nat.le_of_ble_eq_true rfl) dX3_readAtom_92 ?_
  refine z_aload_n S dX3_readAtom_95 rfl 0 rfl ?_
  refine z_aload_n S dX3_readAtom_96 rfl 1 rfl ?_
  obtain ⟨⟨r7, M8⟩, h9, he⟩ := bnd he
  dsimp only at he
  refine z_cVI (As := [.ref (X.2.2 v1)]) S cv_RX3_144 (K_X3_readSum h_v1 h9) ok_102 (by decide) (q := (RX3, TX3, 4)) rfl rfl ⟨rfl, rfl⟩ ⟨Nat.le_of_ble_eq_true rfl, Nat.le_of_ble_eq_true rfl⟩ ⟨Nat.le_refl _, Nat.le_refl _⟩ rfl rfl (Nat.le_of_ble_eq_true rfl) dX3_readAtom_97 ?_
  refine z_ifb_ne (tgt := 105) S he dX3_readAtom_100 (by decide) (fun he => ?_) (fun he => ?_)
  · refine z_aload_n S dX3_readAtom_105 rfl 1 rfl ?_
    refine z_iload_n S dX3_readAtom_106 rfl 2 rfl ?_
    refine z_if_eq (tgt := 116) S he dX3_readAtom_107 (by decide) (fun he => ?_) (fun he => ?_)
    · refine z_sipush (v := 1022) S dX3_readAtom_116 (by decide) ?_
      refine z_lv (ks := []) rfl ?_
      exact p_X3_readAtom_J119 S h_v1 he
    · refine z_sipush (v := 1021) S dX3_readAtom_110 (by decide) ?_
      refine z_goto (tgt := 119) S dX3_readAtom_113 (by decide) ?_
      refine z_lv (ks := []) rfl ?_
      exact p_X3_readAtom_J119 S h_v1 he
  · refine z_iconst (v := 0) S dX3_readAtom_103 (by decide) ?_
    exact z_zret0 S (Prod.mk.inj (Option.some.inj he)) dX3_readAtom_104
set_option maxRecDepth 100000 in
set_option maxHeartbeats 4000000 in
theorem p_X3_readAtom_J42 {X : Cx} {p : Program} {l : Launch} {e : Env} {s : State} {m : MethodId} {args : Array Value} {below : List Frame} {meth : Method} {c : Code} (S : SB X 0 p s m args meth c cX3_readAtom 4 (some .boolean) RX3) {M : Mm} {N : Mm} {r : Bool} {v1 : Nat} (h_v1 : OK 0 v1 2) (he : f_X3_readAtom_J42 M v1 = some (r, N)) : Z X 0 p l e rm_X3_readAtom s m args below meth c 0 0 (MQ below (QI X 0 (bI r) N s.heap.size) args s 0 0 (AA X 0 s.heap.size)) 4 M 42 [(0, .ref (X.2.2 102)), (1, .ref (X.2.2 v1))] [] := by
  unfold f_X3_readAtom_J42 at he
  refine z_aload_n S dX3_readAtom_42 rfl 0 rfl ?_
  refine z_aload_n S dX3_readAtom_43 rfl 1 rfl ?_
  obtain ⟨⟨r2, M3⟩, h9, he⟩ := bnd he
  dsimp only at he
  refine z_cVI (As := [.ref (X.2.2 v1)]) S cv_RX3_144 (K_X3_readSum h_v1 h9) ok_102 (by decide) (q := (RX3, TX3, 4)) rfl rfl ⟨rfl, rfl⟩ ⟨Nat.le_of_ble_eq_true rfl, Nat.le_of_ble_eq_true rfl⟩ ⟨Nat.le_refl _, Nat.le_refl _⟩ rfl rfl (Nat.le_of_ble_eq_true rfl) dX3_readAtom_44 ?_
  refine z_ifb_ne (tgt := 52) S he dX3_readAtom_47 (by decide) (fun he => ?_) (fun he => ?_)
  · refine z_aload_n S dX3_readAtom_52 rfl 0 rfl ?_
    refine z_getF (j := 104) S fo_RX3_14 2 rfl rfl ok_102 dX3_readAtom_53 ?_
    refine z_getW (i := 25) (j := 325) S (by decide) rfl rfl gw_RX3_147 dX3_readAtom_56 ?_
    obtain ⟨⟨r4, M5⟩, h9, he⟩ := bnd he
    dsimp only at he
    refine z_cVI (As := [.ref (X.2.2 325)]) S cv_RX3_46 (K_X7_skip ok_104 (isW_add (i := 25) (by decide)) h9) ok_104 (by decide) (q := (RX7, TX7, 9)) rfl rfl ⟨rfl, rfl⟩ ⟨Nat.le_of_ble_eq_true rfl, Nat.le_of_ble_eq_true rfl⟩ ⟨Nat.le_refl _, Nat.le_refl _⟩ rfl rfl (Nat.le_of_ble_eq_true rfl) dX3_readAtom_59 ?_
    refine z_istore_n (lv' := [(0, .ref (X.2.2 102)), (1, .ref (X.2.2 v1)), (3, .int (bI r4))]) S [1, 2, 0] dX3_readAtom_62 rfl (by decide) rfl ?_
    refine z_iload_n S dX3_readAtom_63 rfl 2 rfl ?_
    refine z_ifb_ne (tgt := 88) S he dX3_readAtom_64 (by decide) (fun he => ?_) (fun he => ?_)
    · exact p_X3_readAtom_J88 S h_v1 he
    · refine z_aload_n S dX3_readAtom_67 rfl 0 rfl ?_
      refine z_getF (j := 104) S fo_RX3_14 2 rfl rfl ok_102 dX3_readAtom_68 ?_
      refine z_getW (i := 26) (j := 326) S (by decide) rfl rfl gw_RX3_150 dX3_readAtom_71 ?_
      obtain ⟨⟨r10, M11⟩, h9, he⟩ := bnd he
      dsimp only at he
      refine z_cVI (As := [.ref (X.2.2 326)]) S cv_RX3_46 (K_X7_skip ok_104 (isW_add (i := 26) (by decide)) h9) ok_104 (by decide) (q := (RX7, TX7, 9)) rfl rfl ⟨rfl, rfl⟩ ⟨Nat.le_of_ble_eq_true rfl, Nat.le_of_ble_eq_true rfl⟩ ⟨Nat.le_refl _, Nat.le_refl _⟩ rfl rfl (Nat.le_of_ble_eq_true rfl) dX3_readAtom_74 ?_
      refine z_ifb_ne (tgt := 88) S he dX3_readAtom_77 (by decide) (fun he => ?_) (fun he => ?_)
      · exact p_X3_readAtom_J88 S h_v1 he
      · refine z_aload_n S dX3_readAtom_80 rfl 0 rfl ?_
        refine z_getF (j := 104) S fo_RX3_14 2 rfl rfl ok_102 dX3_readAtom_81 ?_
        obtain ⟨⟨r12, M13⟩, h9, he⟩ := bnd he
        dsimp only at he
        refine z_cVI (As := []) S cv_RX3_50 (K_X7_refuse ok_104 (Option.some.inj h9)) ok_104 (by decide) (q := (RX7, TX7, 9)) rfl rfl ⟨rfl, rfl⟩ ⟨Nat.le_of_ble_eq_true rfl, Nat.le_of_ble_eq_true rfl⟩ ⟨Nat.le_refl _, Nat.le_refl _⟩ rfl rfl (Nat.le_of_ble_eq_true rfl) dX3_readAtom_84 ?_
        exact z_zret S (Prod.mk.inj (Option.some.inj he)) dX3_readAtom_87
  · refine z_iconst (v := 0) S dX3_readAtom_50 (by decide) ?_
    exact z_zret0 S (Prod.mk.inj (Option.some.inj he)) dX3_readAtom_51
set_option maxRecDepth 100000 in
set_option maxHeartbeats 4000000 in
theorem K_X3_readAtom {X : Cx} {l : Launch} {M : Mm} {a1 : Nat} {r : Bool} {N : Mm} (h_a1 : OK 0 a1 2) (he : f_X3_readAtom M a1 = some (r, N)) : KI X 0 l yX3_readAtom (wz yX3_readAtom cX3_readAtom 4 (some .boolean)) rm_X3_readAtom [.ref (X.2.2 102), .ref (X.2.2 a1)] M (bI r) N := by
  intro sz
  refine K_of (Qc := (fun sz => QI X 0 (bI r) N sz)) (own := RX3) (lv0 := [(0, .ref (X.2.2 102)), (1, .ref (X.2.2 a1))]) (by decide +kernel) rfl (Nat.le_of_ble_eq_true rfl) rfl (fun p e s m args below meth c S => ?_) sz
  · unfold f_X3_readAtom at he
    refine z_aload_n S dX3_readAtom_0 rfl 0 rfl ?_
    refine z_getF (j := 104) S fo_RX3_14 2 rfl rfl ok_102 dX3_readAtom_1 ?_
    obtain ⟨r1, h9, he⟩ := bnd he
    refine z_cVI (As := []) S cv_RX3_131 (K_X7_marksHere ok_104 h9) ok_104 (by decide) (q := (RX7, TX7, 9)) rfl rfl ⟨rfl, rfl⟩ ⟨Nat.le_of_ble_eq_true rfl, Nat.le_of_ble_eq_true rfl⟩ ⟨Nat.le_refl _, Nat.le_refl _⟩ rfl rfl (Nat.le_of_ble_eq_true rfl) dX3_readAtom_4 ?_
    refine z_istore_n (lv' := [(0, .ref (X.2.2 102)), (1, .ref (X.2.2 a1)), (2, .int r1)]) S [1, 2, 0] dX3_readAtom_7 rfl (by decide) rfl ?_
    refine z_iload_n S dX3_readAtom_8 rfl 2 rfl ?_
    refine z_iconst (v := (-1)) S dX3_readAtom_9 (by decide) ?_
    refine z_icmp_eq (tgt := 42) S he dX3_readAtom_10 (by decide) (fun he => ?_) (fun he => ?_)
    · refine z_lv (ks := [0, 1]) rfl ?_
      exact p_X3_readAtom_J42 S h_a1 he
    · refine z_iload_n S dX3_readAtom_13 rfl 2 rfl ?_
      obtain ⟨r14, h9, he⟩ := bnd he
      refine z_cSI (As := [.int r1]) S cs_RX3_135 (K_J6_bitCount_0f7a4  h9) ⟨rfl, rfl⟩ ⟨Nat.le_of_ble_eq_true rfl, Nat.le_of_ble_eq_true rfl⟩ ⟨Nat.le_refl _, Nat.le_refl _⟩ rfl rfl (Nat.le_of_ble_eq_true rfl) dX3_readAtom_14 ?_
      refine z_iconst (v := 1) S dX3_readAtom_17 (by decide) ?_
      refine z_icmp_ne (tgt := 42) S he dX3_readAtom_18 (by decide) (fun he => ?_) (fun he => ?_)
      · refine z_lv (ks := [0, 1]) rfl ?_
        exact p_X3_readAtom_J42 S h_a1 he
      · refine z_aload_n S dX3_readAtom_21 rfl 1 rfl ?_
        refine z_sipush (v := 1010) S dX3_readAtom_22 (by decide) ?_
        refine z_iload_n S dX3_readAtom_25 rfl 2 rfl ?_
        obtain ⟨r15, h9, he⟩ := bnd he
        refine z_cSI (As := [.int r1]) S cs_RX3_141 (K_J6_numberOfTrailingZeros_0f7a4  h9) ⟨rfl, rfl⟩ ⟨Nat.le_of_ble_eq_true rfl, Nat.le_of_ble_eq_true rfl⟩ ⟨Nat.le_refl _, Nat.le_refl _⟩ rfl rfl (Nat.le_of_ble_eq_true rfl) dX3_readAtom_26 ?_
        refine z_iadd S dX3_readAtom_29 ?_
        obtain ⟨M16, h9, he⟩ := bnd he
        refine z_cVV (As := [.int (1010 + r15)]) S cv_RX3_128 (K_X2_addOperation h_a1 h9) h_a1 (by decide) (q := (RX2, TX2, 7)) rfl rfl ⟨rfl, rfl⟩ ⟨Nat.le_of_ble_eq_true rfl, Nat.le_of_ble_eq_true rfl⟩ ⟨Nat.le_refl _, Nat.le_refl _⟩ rfl rfl (Nat.le_of_ble_eq_true rfl) dX3_readAtom_30 ?_
        refine z_aload_n S dX3_readAtom_33 rfl 0 rfl ?_
        refine z_getF (j := 104) S fo_RX3_14 2 rfl rfl ok_102 dX3_readAtom_34 ?_
        obtain ⟨M17, h9, he⟩ := bnd he
        refine z_cVV (As := []) S cv_RX3_67 (K_X7_next ok_104 h9) ok_104 (by decide) (q := (RX7, TX7, 9)) rfl rfl ⟨rfl, rfl⟩ ⟨Nat.le_of_ble_eq_true rfl, Nat.le_of_ble_eq_true rfl⟩ ⟨Nat.le_refl _, Nat.le_refl _⟩ rfl rfl (Nat.le_of_ble_eq_true rfl) dX3_readAtom_37 ?_
        refine z_iconst (v := 1) S dX3_readAtom_40 (by decide) ?_
        exact z_zret1 S (Prod.mk.inj (Option.some.inj he)) dX3_readAtom_41
set_option maxRecDepth 100000 in
set_option maxHeartbeats 4000000 in
theorem p_X3_settle_J0_63 {X : Cx} {p : Program} {l : Launch} {e : Env} {s : State} {m : MethodId} {args : Array Value} {below : List Frame} {meth : Method} {c : Code} (S : SB X 0 p s m args meth c cX3_settle 4 none RX3) {M : Mm} {N : Mm} {v1 : Nat} {v2 : Int32} {v3 : Int32} {t0 : Int32} {t1 : Int32} {x : Mm ⊕ Mm} (h_v1 : OK 0 v1 2) (he : f_X3_settle_J0_63 M v1 v2 v3 t0 t1 = some x) (hc : ∀ b, x = .inl b → Z X 0 p l e rm_X3_settle s m args below meth c 0 0 (MQ below (QV X 0 N s.heap.size) args s 0 0 (AA X 0 s.heap.size)) 4 b 0 [(0, .ref (X.2.2 102)), (1, .ref (X.2.2 v1)), (2, .int v2)] []) (hx : ∀ b, x = .inr b → Z X 0 p l e rm_X3_settle s m args below meth c 0 0 (MQ below (QV X 0 N s.heap.size) args s 0 0 (AA X 0 s.heap.size)) 4 b 75 [] []) : Z X 0 p l e rm_X3_settle s m args below meth c 0 0 (MQ below (QV X 0 N s.heap.size) args s 0 0 (AA X 0 s.heap.size)) 4 M 63 [(0, .ref (X.2.2 102)), (1, .ref (X.2.2 v1)), (2, .int v2), (3, .int v3)] [.int t0, .int t1, .ref (X.2.2 102)] := by
  unfold f_X3_settle_J0_63 at he
  refine z_isub S dX3_settle_63 ?_
  refine z_putIb S fo_RX3_84p rfl ok_102 rfl rfl he dX3_settle_64 (fun M4 he => ?_)
  refine z_aload_n S dX3_settle_67 rfl 1 rfl ?_
  refine z_iload_n S dX3_settle_68 rfl 3 rfl ?_
  obtain ⟨M5, h9, he⟩ := bnd he
  refine z_cVV (As := [.int v3]) S cv_RX3_128 (K_X2_addOperation h_v1 h9) h_v1 (by decide) (q := (RX2, TX2, 7)) rfl rfl ⟨rfl, rfl⟩ ⟨Nat.le_of_ble_eq_true rfl, Nat.le_of_ble_eq_true rfl⟩ ⟨Nat.le_refl _, Nat.le_refl _⟩ rfl rfl (Nat.le_of_ble_eq_true rfl) dX3_settle_69 ?_
  refine z_goto (tgt := 0) S dX3_settle_72 (by decide) ?_
  refine z_lv (ks := [0, 1, 2]) rfl ?_
  exact hc _ (Option.some.inj he).symm
set_option maxRecDepth 100000 in
set_option maxHeartbeats 4000000 in
theorem p_X3_settle_L0 {X : Cx} {p : Program} {l : Launch} {e : Env} {s : State} {m : MethodId} {args : Array Value} {below : List Frame} {meth : Method} {c : Code} (S : SB X 0 p s m args meth c cX3_settle 4 none RX3) {M : Mm} {N : Mm} {v1 : Nat} {v2 : Int32} {x : Mm ⊕ Mm} (h_v1 : OK 0 v1 2) (he : f_X3_settle_L0 M v1 v2 = some x) (hc : ∀ b, x = .inl b → Z X 0 p l e rm_X3_settle s m args below meth c 0 0 (MQ below (QV X 0 N s.heap.size) args s 0 0 (AA X 0 s.heap.size)) 4 b 0 [(0, .ref (X.2.2 102)), (1, .ref (X.2.2 v1)), (2, .int v2)] []) (hx : ∀ b, x = .inr b → Z X 0 p l e rm_X3_settle s m args below meth c 0 0 (MQ below (QV X 0 N s.heap.size) args s 0 0 (AA X 0 s.heap.size)) 4 b 75 [] []) : Z X 0 p l e rm_X3_settle s m args below meth c 0 0 (MQ below (QV X 0 N s.heap.size) args s 0 0 (AA X 0 s.heap.size)) 4 M 0 [(0, .ref (X.2.2 102)), (1, .ref (X.2.2 v1)), (2, .int v2)] [] := by
  unfold f_X3_settle_L0 at he
  refine z_aload_n S dX3_settle_0 rfl 0 rfl ?_
  refine z_getI S fo_RX3_80 rfl ok_102 dX3_settle_1 ?_
  refine z_if_le (tgt := 75) S he dX3_settle_4 (by decide) (fun he => ?_) (fun he => ?_)
  · refine z_lv (ks := []) rfl ?_
    exact hx _ (Option.some.inj he).symm
  · refine z_aload_n S dX3_settle_7 rfl 0 rfl ?_
    refine z_getF (j := 103) S fo_RX3_20 1 rfl rfl ok_102 dX3_settle_8 ?_
    refine z_aload_n S dX3_settle_11 rfl 0 rfl ?_
    refine z_getI S fo_RX3_80 rfl ok_102 dX3_settle_12 ?_
    refine z_iconst (v := 1) S dX3_settle_15 (by decide) ?_
    refine z_isub S dX3_settle_16 ?_
    obtain ⟨r1, h9, he⟩ := bnd he
    refine z_cNI (As := [.ref (X.2.2 103), .int ((gI M 102 2) - 1)]) S cn_RX3_124 (K_X9_at ok_103 h9) ⟨rfl, rfl⟩ ⟨Nat.le_of_ble_eq_true rfl, Nat.le_of_ble_eq_true rfl⟩ ⟨Nat.le_refl _, Nat.le_refl _⟩ rfl rfl (Nat.le_of_ble_eq_true rfl) dX3_settle_17 ?_
    refine z_iload_n S dX3_settle_20 rfl 2 rfl ?_
    refine z_icmp_gt (tgt := 75) S he dX3_settle_21 (by decide) (fun he => ?_) (fun he => ?_)
    · refine z_lv (ks := []) rfl ?_
      exact hx _ (Option.some.inj he).symm
    · refine z_aload_n S dX3_settle_24 rfl 0 rfl ?_
      refine z_dup S rfl dX3_settle_25 ?_
      refine z_getI S fo_RX3_80 rfl ok_102 dX3_settle_26 ?_
      refine z_iconst (v := 1) S dX3_settle_29 (by decide) ?_
      refine z_isub S dX3_settle_30 ?_
      refine z_putIb S fo_RX3_80p rfl ok_102 rfl rfl he dX3_settle_31 (fun M2 he => ?_)
      refine z_aload_n S dX3_settle_34 rfl 0 rfl ?_
      refine z_getF (j := 103) S fo_RX3_20 1 rfl rfl ok_102 dX3_settle_35 ?_
      refine z_aload_n S dX3_settle_38 rfl 0 rfl ?_
      refine z_getI S fo_RX3_80 rfl ok_102 dX3_settle_39 ?_
      obtain ⟨r3, h9, he⟩ := bnd he
      refine z_cNI (As := [.ref (X.2.2 103), .int (gI M2 102 2)]) S cn_RX3_124 (K_X9_at ok_103 h9) ⟨rfl, rfl⟩ ⟨Nat.le_of_ble_eq_true rfl, Nat.le_of_ble_eq_true rfl⟩ ⟨Nat.le_refl _, Nat.le_refl _⟩ rfl rfl (Nat.le_of_ble_eq_true rfl) dX3_settle_42 ?_
      refine z_istore_n (lv' := [(0, .ref (X.2.2 102)), (1, .ref (X.2.2 v1)), (2, .int v2), (3, .int r3)]) S [1, 2, 3, 0] dX3_settle_45 rfl (by decide) rfl ?_
      refine z_aload_n S dX3_settle_46 rfl 0 rfl ?_
      refine z_dup S rfl dX3_settle_47 ?_
      refine z_getI S fo_RX3_84 rfl ok_102 dX3_settle_48 ?_
      refine z_iload_n S dX3_settle_51 rfl 3 rfl ?_
      refine z_sipush (v := 1023) S dX3_settle_52 (by decide) ?_
      refine z_icmp_ne (tgt := 62) S he dX3_settle_55 (by decide) (fun he => ?_) (fun he => ?_)
      · refine z_iconst (v := 0) S dX3_settle_62 (by decide) ?_
        exact p_X3_settle_J0_63 S h_v1 he hc hx
      · refine z_iconst (v := 1) S dX3_settle_58 (by decide) ?_
        refine z_goto (tgt := 63) S dX3_settle_59 (by decide) ?_
        exact p_X3_settle_J0_63 S h_v1 he hc hx
set_option maxRecDepth 100000 in
set_option maxHeartbeats 4000000 in
theorem K_X3_settle {X : Cx} {l : Launch} {M : Mm} {a1 : Nat} {a2 : Int32} {N : Mm} (h_a1 : OK 0 a1 2) (he : f_X3_settle M a1 a2 = some N) : KV X 0 l yX3_settle (wz yX3_settle cX3_settle 4 none) rm_X3_settle [.ref (X.2.2 102), .ref (X.2.2 a1), .int a2] M N := by
  intro sz
  refine K_of (Qc := (fun sz => QV X 0 N sz)) (own := RX3) (lv0 := [(0, .ref (X.2.2 102)), (1, .ref (X.2.2 a1)), (2, .int a2)]) (by decide +kernel) rfl (Nat.le_of_ble_eq_true rfl) rfl (fun p e s m args below meth c S => ?_) sz
  · unfold f_X3_settle at he
    obtain ⟨e_6, hl, he⟩ := bnd he
    have hX : Z X 0 p l e rm_X3_settle s m args below meth c 0 0 (MQ below (QV X 0 N s.heap.size) args s 0 0 (AA X 0 s.heap.size)) 4 e_6 75 [] [] := by
      exact z_vret S (Option.some.inj he) dX3_settle_75
    exact loopZ (Zh := (fun a_6 => Z X 0 p l e rm_X3_settle s m args below meth c 0 0 (MQ below (QV X 0 N s.heap.size) args s 0 0 (AA X 0 s.heap.size)) 4 a_6 0 [(0, .ref (X.2.2 102)), (1, .ref (X.2.2 a1)), (2, .int a2)] [])) (fun a_6 x hb hc hr => p_X3_settle_L0 S h_a1 hb hc (fun b hxe => by rw [hr b hxe]; exact hX)) FU _ hl
set_option maxRecDepth 100000 in
set_option maxHeartbeats 4000000 in
theorem p_X3_readClosings_L2 {X : Cx} {p : Program} {l : Launch} {e : Env} {s : State} {m : MethodId} {args : Array Value} {below : List Frame} {meth : Method} {c : Code} (S : SB X 0 p s m args meth c cX3_readClosings 3 none RX3) {M : Mm} {N : Mm} {v1 : Nat} {v2 : Int32} {x : (Mm × Int32) ⊕ ((Mm) ⊕ Mm)} (h_v1 : OK 0 v1 2) (he : f_X3_readClosings_L2 M v1 v2 = some x) (hc : ∀ b, x = .inl b → Z X 0 p l e rm_X3_readClosings s m args below meth c 0 0 (MQ below (QV X 0 N s.heap.size) args s 0 0 (AA X 0 s.heap.size)) 3 b.1 2 [(0, .ref (X.2.2 102)), (1, .ref (X.2.2 v1)), (2, .int b.2)] []) (hx : ∀ b, x = .inr (.inr b) → Z X 0 p l e rm_X3_readClosings s m args below meth c 0 0 (MQ below (QV X 0 N s.heap.size) args s 0 0 (AA X 0 s.heap.size)) 3 b 70 [] []) (hr : ∀ v, x = .inr (.inl v) → v = N) : Z X 0 p l e rm_X3_readClosings s m args below meth c 0 0 (MQ below (QV X 0 N s.heap.size) args s 0 0 (AA X 0 s.heap.size)) 3 M 2 [(0, .ref (X.2.2 102)), (1, .ref (X.2.2 v1)), (2, .int v2)] [] := by
  unfold f_X3_readClosings_L2 at he
  refine z_iload_n S dX3_readClosings_2 rfl 2 rfl ?_
  refine z_bipush (v := 6) S dX3_readClosings_3 (by decide) ?_
  refine z_icmp_ge (tgt := 70) S he dX3_readClosings_5 (by decide) (fun he => ?_) (fun he => ?_)
  · refine z_lv (ks := []) rfl ?_
    exact hx _ (Option.some.inj he).symm
  · refine z_aload_n S dX3_readClosings_8 rfl 0 rfl ?_
    refine z_getF (j := 104) S fo_RX3_14 2 rfl rfl ok_102 dX3_readClosings_9 ?_
    refine z_getWd S fo_RX3_30 rfl ok_104 he dX3_readClosings_12 (fun q1 hq1 he => ?_)
    refine z_getW (i := 24) (j := 324) S (by decide) rfl rfl gw_RX3_117 dX3_readClosings_15 ?_
    refine z_acmp_ne (tgt := 70) S hq1 (isW_add (i := 24) (by decide)) he dX3_readClosings_18 (by decide) (fun he => ?_) (fun he => ?_)
    · refine z_lv (ks := []) rfl ?_
      exact hx _ (Option.some.inj he).symm
    · refine z_aload_n S dX3_readClosings_21 rfl 0 rfl ?_
      refine z_aload_n S dX3_readClosings_22 rfl 1 rfl ?_
      refine z_sipush (v := 1025) S dX3_readClosings_23 (by decide) ?_
      obtain ⟨M2, h9, he⟩ := bnd he
      refine z_cVV (As := [.ref (X.2.2 v1), .int 1025]) S cv_RX3_100 (K_X3_settle h_v1 h9) ok_102 (by decide) (q := (RX3, TX3, 4)) rfl rfl ⟨rfl, rfl⟩ ⟨Nat.le_of_ble_eq_true rfl, Nat.le_of_ble_eq_true rfl⟩ ⟨Nat.le_refl _, Nat.le_refl _⟩ rfl rfl (Nat.le_of_ble_eq_true rfl) dX3_readClosings_26 ?_
      refine z_aload_n S dX3_readClosings_29 rfl 0 rfl ?_
      refine z_getI S fo_RX3_80 rfl ok_102 dX3_readClosings_30 ?_
      refine z_if_ne (tgt := 37) S he dX3_readClosings_33 (by decide) (fun he => ?_) (fun he => ?_)
      · refine z_aload_n S dX3_readClosings_37 rfl 0 rfl ?_
        refine z_dup S rfl dX3_readClosings_38 ?_
        refine z_getI S fo_RX3_80 rfl ok_102 dX3_readClosings_39 ?_
        refine z_iconst (v := 1) S dX3_readClosings_42 (by decide) ?_
        refine z_isub S dX3_readClosings_43 ?_
        refine z_putIb S fo_RX3_80p rfl ok_102 rfl rfl he dX3_readClosings_44 (fun M3 he => ?_)
        refine z_aload_n S dX3_readClosings_47 rfl 0 rfl ?_
        refine z_dup S rfl dX3_readClosings_48 ?_
        refine z_getI S fo_RX3_84 rfl ok_102 dX3_readClosings_49 ?_
        refine z_iconst (v := 1) S dX3_readClosings_52 (by decide) ?_
        refine z_isub S dX3_readClosings_53 ?_
        refine z_putIb S fo_RX3_84p rfl ok_102 rfl rfl he dX3_readClosings_54 (fun M4 he => ?_)
        refine z_aload_n S dX3_readClosings_57 rfl 0 rfl ?_
        refine z_getF (j := 104) S fo_RX3_14 2 rfl rfl ok_102 dX3_readClosings_58 ?_
        obtain ⟨M5, h9, he⟩ := bnd he
        refine z_cVV (As := []) S cv_RX3_67 (K_X7_next ok_104 h9) ok_104 (by decide) (q := (RX7, TX7, 9)) rfl rfl ⟨rfl, rfl⟩ ⟨Nat.le_of_ble_eq_true rfl, Nat.le_of_ble_eq_true rfl⟩ ⟨Nat.le_refl _, Nat.le_refl _⟩ rfl rfl (Nat.le_of_ble_eq_true rfl) dX3_readClosings_61 ?_
        refine z_iinc (v := (v2 + 1)) (lv' := [(0, .ref (X.2.2 102)), (1, .ref (X.2.2 v1)), (2, .int (v2 + 1))]) S [1, 2, 0] 2 dX3_readClosings_64 rfl (by rfl) (by decide) rfl ?_
        refine z_goto (tgt := 2) S dX3_readClosings_67 (by decide) ?_
        refine z_lv (ks := [0, 1, 2]) rfl ?_
        exact hc _ (Option.some.inj he).symm
      · exact z_vret S (hr _ (Option.some.inj he).symm) dX3_readClosings_36
set_option maxRecDepth 100000 in
set_option maxHeartbeats 4000000 in
theorem K_X3_readClosings {X : Cx} {l : Launch} {M : Mm} {a1 : Nat} {N : Mm} (h_a1 : OK 0 a1 2) (he : f_X3_readClosings M a1 = some N) : KV X 0 l yX3_readClosings (wz yX3_readClosings cX3_readClosings 3 none) rm_X3_readClosings [.ref (X.2.2 102), .ref (X.2.2 a1)] M N := by
  intro sz
  refine K_of (Qc := (fun sz => QV X 0 N sz)) (own := RX3) (lv0 := [(0, .ref (X.2.2 102)), (1, .ref (X.2.2 a1))]) (by decide +kernel) rfl (Nat.le_of_ble_eq_true rfl) rfl (fun p e s m args below meth c S => ?_) sz
  · unfold f_X3_readClosings at he
    refine z_iconst (v := 0) S dX3_readClosings_0 (by decide) ?_
    refine z_istore_n (lv' := [(0, .ref (X.2.2 102)), (1, .ref (X.2.2 a1)), (2, .int 0)]) S [1, 2, 0] dX3_readClosings_1 rfl (by decide) rfl ?_
    obtain ⟨r9, hl, hr1, hr2⟩ := bndS he
    have hX : ∀ e_6, r9 = .inr e_6 → Z X 0 p l e rm_X3_readClosings s m args below meth c 0 0 (MQ below (QV X 0 N s.heap.size) args s 0 0 (AA X 0 s.heap.size)) 3 e_6 70 [] [] := by
      intro e_6 hre
      have he := hr2 e_6 hre
      exact z_vret S (Option.some.inj he) dX3_readClosings_70
    exact loopZ (Zh := (fun a_6 => Z X 0 p l e rm_X3_readClosings s m args below meth c 0 0 (MQ below (QV X 0 N s.heap.size) args s 0 0 (AA X 0 s.heap.size)) 3 a_6.1 2 [(0, .ref (X.2.2 102)), (1, .ref (X.2.2 a1)), (2, .int a_6.2)] [])) (fun a_6 x hb hc hr9 => p_X3_readClosings_L2 S h_a1 hb hc (fun b hxe => hX b (hr9 _ hxe).symm) (fun v hxv => Option.some.inj (hr1 v (hr9 _ hxv).symm))) FU _ hl
set_option maxRecDepth 100000 in
set_option maxHeartbeats 4000000 in
theorem p_X3_readCondition_J12_123 {X : Cx} {p : Program} {l : Launch} {e : Env} {s : State} {m : MethodId} {args : Array Value} {below : List Frame} {meth : Method} {c : Code} (S : SB X 0 p s m args meth c cX3_readCondition 3 (some .boolean) RX3) {M : Mm} {N : Mm} {r : Bool} {v1 : Nat} {v2 : Int32} {x : (Mm × Int32) ⊕ ((Bool × Mm) ⊕ Mm)} (h_v1 : OK 0 v1 2) (he : f_X3_readCondition_J12_123 M v1 v2 = some x) (hc : ∀ b, x = .inl b → Z X 0 p l e rm_X3_readCondition s m args below meth c 0 0 (MQ below (QI X 0 (bI r) N s.heap.size) args s 0 0 (AA X 0 s.heap.size)) 3 b.1 12 [(0, .ref (X.2.2 102)), (1, .ref (X.2.2 v1)), (2, .int b.2)] []) (hx : ∀ b, x = .inr (.inr b) → Z X 0 p l e rm_X3_readCondition s m args below meth c 0 0 (MQ below (QI X 0 (bI r) N s.heap.size) args s 0 0 (AA X 0 s.heap.size)) 3 b 136 [(0, .ref (X.2.2 102))] []) (hr : ∀ v, x = .inr (.inl v) → v = (r, N)) : Z X 0 p l e rm_X3_readCondition s m args below meth c 0 0 (MQ below (QI X 0 (bI r) N s.heap.size) args s 0 0 (AA X 0 s.heap.size)) 3 M 123 [(0, .ref (X.2.2 102)), (1, .ref (X.2.2 v1)), (2, .int v2)] [] := by
  unfold f_X3_readCondition_J12_123 at he
  refine z_aload_n S dX3_readCondition_123 rfl 0 rfl ?_
  refine z_getF (j := 104) S fo_RX3_14 2 rfl rfl ok_102 dX3_readCondition_124 ?_
  obtain ⟨M12, h9, he⟩ := bnd he
  refine z_cVV (As := []) S cv_RX3_67 (K_X7_next ok_104 h9) ok_104 (by decide) (q := (RX7, TX7, 9)) rfl rfl ⟨rfl, rfl⟩ ⟨Nat.le_of_ble_eq_true rfl, Nat.le_of_ble_eq_true rfl⟩ ⟨Nat.le_refl _, Nat.le_refl _⟩ rfl rfl (Nat.le_of_ble_eq_true rfl) dX3_readCondition_127 ?_
  refine z_iinc (v := (v2 + 1)) (lv' := [(0, .ref (X.2.2 102)), (1, .ref (X.2.2 v1)), (2, .int (v2 + 1))]) S [1, 2, 0] 2 dX3_readCondition_130 rfl (by rfl) (by decide) rfl ?_
  refine z_goto (tgt := 12) S dX3_readCondition_133 (by decide) ?_
  refine z_lv (ks := [0, 1, 2]) rfl ?_
  exact hc _ (Option.some.inj he).symm
set_option maxRecDepth 100000 in
set_option maxHeartbeats 4000000 in
theorem p_X3_readCondition_J12_110 {X : Cx} {p : Program} {l : Launch} {e : Env} {s : State} {m : MethodId} {args : Array Value} {below : List Frame} {meth : Method} {c : Code} (S : SB X 0 p s m args meth c cX3_readCondition 3 (some .boolean) RX3) {M : Mm} {N : Mm} {r : Bool} {x : (Mm × Int32) ⊕ ((Bool × Mm) ⊕ Mm)} {v1 : Nat}  (he : f_X3_readCondition_J12_110 M  = some x) (hc : ∀ b, x = .inl b → Z X 0 p l e rm_X3_readCondition s m args below meth c 0 0 (MQ below (QI X 0 (bI r) N s.heap.size) args s 0 0 (AA X 0 s.heap.size)) 3 b.1 12 [(0, .ref (X.2.2 102)), (1, .ref (X.2.2 v1)), (2, .int b.2)] []) (hx : ∀ b, x = .inr (.inr b) → Z X 0 p l e rm_X3_readCondition s m args below meth c 0 0 (MQ below (QI X 0 (bI r) N s.heap.size) args s 0 0 (AA X 0 s.heap.size)) 3 b 136 [(0, .ref (X.2.2 102))] []) (hr : ∀ v, x = .inr (.inl v) → v = (r, N)) : Z X 0 p l e rm_X3_readCondition s m args below meth c 0 0 (MQ below (QI X 0 (bI r) N s.heap.size) args s 0 0 (AA X 0 s.heap.size)) 3 M 110 [] [] := by
  unfold f_X3_readCondition_J12_110 at he
  refine z_iconst (v := 1) S dX3_readCondition_110 (by decide) ?_
  refine z_goto (tgt := 115) S dX3_readCondition_111 (by decide) ?_
  exact z_zret1 S (Prod.mk.inj (hr _ (Option.some.inj he).symm)) dX3_readCondition_115
set_option maxRecDepth 100000 in
set_option maxHeartbeats 4000000 in
theorem p_X3_readCondition_L12 {X : Cx} {p : Program} {l : Launch} {e : Env} {s : State} {m : MethodId} {args : Array Value} {below : List Frame} {meth : Method} {c : Code} (S : SB X 0 p s m args meth c cX3_readCondition 3 (some .boolean) RX3) {M : Mm} {N : Mm} {r : Bool} {v1 : Nat} {v2 : Int32} {x : (Mm × Int32) ⊕ ((Bool × Mm) ⊕ Mm)} (h_v1 : OK 0 v1 2) (he : f_X3_readCondition_L12 M v1 v2 = some x) (hc : ∀ b, x = .inl b → Z X 0 p l e rm_X3_readCondition s m args below meth c 0 0 (MQ below (QI X 0 (bI r) N s.heap.size) args s 0 0 (AA X 0 s.heap.size)) 3 b.1 12 [(0, .ref (X.2.2 102)), (1, .ref (X.2.2 v1)), (2, .int b.2)] []) (hx : ∀ b, x = .inr (.inr b) → Z X 0 p l e rm_X3_readCondition s m args below meth c 0 0 (MQ below (QI X 0 (bI r) N s.heap.size) args s 0 0 (AA X 0 s.heap.size)) 3 b 136 [(0, .ref (X.2.2 102))] []) (hr : ∀ v, x = .inr (.inl v) → v = (r, N)) : Z X 0 p l e rm_X3_readCondition s m args below meth c 0 0 (MQ below (QI X 0 (bI r) N s.heap.size) args s 0 0 (AA X 0 s.heap.size)) 3 M 12 [(0, .ref (X.2.2 102)), (1, .ref (X.2.2 v1)), (2, .int v2)] [] := by
  unfold f_X3_readCondition_L12 at he
  refine z_iload_n S dX3_readCondition_12 rfl 2 rfl ?_
  refine z_sipush (v := 400) S dX3_readCondition_13 (by decide) ?_
  refine z_icmp_ge (tgt := 136) S he dX3_readCondition_16 (by decide) (fun he => ?_) (fun he => ?_)
  · refine z_lv (ks := [0]) rfl ?_
    exact hx _ (Option.some.inj he).symm
  · refine z_aload_n S dX3_readCondition_19 rfl 0 rfl ?_
    obtain ⟨⟨r3, M4⟩, h9, he⟩ := bnd he
    dsimp only at he
    refine z_cVI (As := []) S cv_RX3_87 (K_X3_readOpenings  h9) ok_102 (by decide) (q := (RX3, TX3, 4)) rfl rfl ⟨rfl, rfl⟩ ⟨Nat.le_of_ble_eq_true rfl, Nat.le_of_ble_eq_true rfl⟩ ⟨Nat.le_refl _, Nat.le_refl _⟩ rfl rfl (Nat.le_of_ble_eq_true rfl) dX3_readCondition_20 ?_
    refine z_ifb_eq (tgt := 34) S he dX3_readCondition_23 (by decide) (fun he => ?_) (fun he => ?_)
    · refine z_iconst (v := 0) S dX3_readCondition_34 (by decide) ?_
      exact z_zret0 S (Prod.mk.inj (hr _ (Option.some.inj he).symm)) dX3_readCondition_35
    · refine z_aload_n S dX3_readCondition_26 rfl 0 rfl ?_
      refine z_aload_n S dX3_readCondition_27 rfl 1 rfl ?_
      obtain ⟨⟨r5, M6⟩, h9, he⟩ := bnd he
      dsimp only at he
      refine z_cVI (As := [.ref (X.2.2 v1)]) S cv_RX3_90 (K_X3_readAtom h_v1 h9) ok_102 (by decide) (q := (RX3, TX3, 4)) rfl rfl ⟨rfl, rfl⟩ ⟨Nat.le_of_ble_eq_true rfl, Nat.le_of_ble_eq_true rfl⟩ ⟨Nat.le_refl _, Nat.le_refl _⟩ rfl rfl (Nat.le_of_ble_eq_true rfl) dX3_readCondition_28 ?_
      refine z_ifb_ne (tgt := 36) S he dX3_readCondition_31 (by decide) (fun he => ?_) (fun he => ?_)
      · refine z_aload_n S dX3_readCondition_36 rfl 0 rfl ?_
        refine z_aload_n S dX3_readCondition_37 rfl 1 rfl ?_
        obtain ⟨M7, h9, he⟩ := bnd he
        refine z_cVV (As := [.ref (X.2.2 v1)]) S cv_RX3_93 (K_X3_readClosings h_v1 h9) ok_102 (by decide) (q := (RX3, TX3, 4)) rfl rfl ⟨rfl, rfl⟩ ⟨Nat.le_of_ble_eq_true rfl, Nat.le_of_ble_eq_true rfl⟩ ⟨Nat.le_refl _, Nat.le_refl _⟩ rfl rfl (Nat.le_of_ble_eq_true rfl) dX3_readCondition_38 ?_
        refine z_aload_n S dX3_readCondition_41 rfl 0 rfl ?_
        refine z_getF (j := 104) S fo_RX3_14 2 rfl rfl ok_102 dX3_readCondition_42 ?_
        refine z_getWd S fo_RX3_30 rfl ok_104 he dX3_readCondition_45 (fun q8 hq8 he => ?_)
        refine z_getW (i := 14) (j := 314) S (by decide) rfl rfl gw_RX3_97 dX3_readCondition_48 ?_
        refine z_acmp_ne (tgt := 72) S hq8 (isW_add (i := 14) (by decide)) he dX3_readCondition_51 (by decide) (fun he => ?_) (fun he => ?_)
        · refine z_aload_n S dX3_readCondition_72 rfl 0 rfl ?_
          refine z_aload_n S dX3_readCondition_73 rfl 1 rfl ?_
          refine z_sipush (v := 1025) S dX3_readCondition_74 (by decide) ?_
          obtain ⟨M9, h9, he⟩ := bnd he
          refine z_cVV (As := [.ref (X.2.2 v1), .int 1025]) S cv_RX3_100 (K_X3_settle h_v1 h9) ok_102 (by decide) (q := (RX3, TX3, 4)) rfl rfl ⟨rfl, rfl⟩ ⟨Nat.le_of_ble_eq_true rfl, Nat.le_of_ble_eq_true rfl⟩ ⟨Nat.le_refl _, Nat.le_refl _⟩ rfl rfl (Nat.le_of_ble_eq_true rfl) dX3_readCondition_77 ?_
          refine z_aload_n S dX3_readCondition_80 rfl 0 rfl ?_
          refine z_getF (j := 104) S fo_RX3_14 2 rfl rfl ok_102 dX3_readCondition_81 ?_
          refine z_getWd S fo_RX3_30 rfl ok_104 he dX3_readCondition_84 (fun q10 hq10 he => ?_)
          refine z_getW (i := 15) (j := 315) S (by decide) rfl rfl gw_RX3_108 dX3_readCondition_87 ?_
          refine z_acmp_eq (tgt := 116) S hq10 (isW_add (i := 15) (by decide)) he dX3_readCondition_90 (by decide) (fun he => ?_) (fun he => ?_)
          · refine z_aload_n S dX3_readCondition_116 rfl 0 rfl ?_
            refine z_sipush (v := 1025) S dX3_readCondition_117 (by decide) ?_
            obtain ⟨M11, h9, he⟩ := bnd he
            refine z_cVV (As := [.int 1025]) S cv_RX3_104 (K_X3_leaveOpen  h9) ok_102 (by decide) (q := (RX3, TX3, 4)) rfl rfl ⟨rfl, rfl⟩ ⟨Nat.le_of_ble_eq_true rfl, Nat.le_of_ble_eq_true rfl⟩ ⟨Nat.le_refl _, Nat.le_refl _⟩ rfl rfl (Nat.le_of_ble_eq_true rfl) dX3_readCondition_120 ?_
            exact p_X3_readCondition_J12_123 S h_v1 he hc hx hr
          · refine z_aload_n S dX3_readCondition_93 rfl 0 rfl ?_
            refine z_getI S fo_RX3_80 rfl ok_102 dX3_readCondition_94 ?_
            refine z_if_eq (tgt := 110) S he dX3_readCondition_97 (by decide) (fun he => ?_) (fun he => ?_)
            · refine z_lv (ks := []) rfl ?_
              exact p_X3_readCondition_J12_110 S  he hc hx hr
            · refine z_aload_n S dX3_readCondition_100 rfl 0 rfl ?_
              refine z_getF (j := 104) S fo_RX3_14 2 rfl rfl ok_102 dX3_readCondition_101 ?_
              obtain ⟨⟨r13, M14⟩, h9, he⟩ := bnd he
              dsimp only at he
              refine z_cVI (As := []) S cv_RX3_50 (K_X7_refuse ok_104 (Option.some.inj h9)) ok_104 (by decide) (q := (RX7, TX7, 9)) rfl rfl ⟨rfl, rfl⟩ ⟨Nat.le_of_ble_eq_true rfl, Nat.le_of_ble_eq_true rfl⟩ ⟨Nat.le_refl _, Nat.le_refl _⟩ rfl rfl (Nat.le_of_ble_eq_true rfl) dX3_readCondition_104 ?_
              refine z_ifb_eq (tgt := 114) S he dX3_readCondition_107 (by decide) (fun he => ?_) (fun he => ?_)
              · refine z_iconst (v := 0) S dX3_readCondition_114 (by decide) ?_
                exact z_zret0 S (Prod.mk.inj (hr _ (Option.some.inj he).symm)) dX3_readCondition_115
              · refine z_lv (ks := []) rfl ?_
                exact p_X3_readCondition_J12_110 S  he hc hx hr
        · refine z_aload_n S dX3_readCondition_54 rfl 0 rfl ?_
          refine z_aload_n S dX3_readCondition_55 rfl 1 rfl ?_
          refine z_sipush (v := 1024) S dX3_readCondition_56 (by decide) ?_
          obtain ⟨M15, h9, he⟩ := bnd he
          refine z_cVV (As := [.ref (X.2.2 v1), .int 1024]) S cv_RX3_100 (K_X3_settle h_v1 h9) ok_102 (by decide) (q := (RX3, TX3, 4)) rfl rfl ⟨rfl, rfl⟩ ⟨Nat.le_of_ble_eq_true rfl, Nat.le_of_ble_eq_true rfl⟩ ⟨Nat.le_refl _, Nat.le_refl _⟩ rfl rfl (Nat.le_of_ble_eq_true rfl) dX3_readCondition_59 ?_
          refine z_aload_n S dX3_readCondition_62 rfl 0 rfl ?_
          refine z_sipush (v := 1024) S dX3_readCondition_63 (by decide) ?_
          obtain ⟨M16, h9, he⟩ := bnd he
          refine z_cVV (As := [.int 1024]) S cv_RX3_104 (K_X3_leaveOpen  h9) ok_102 (by decide) (q := (RX3, TX3, 4)) rfl rfl ⟨rfl, rfl⟩ ⟨Nat.le_of_ble_eq_true rfl, Nat.le_of_ble_eq_true rfl⟩ ⟨Nat.le_refl _, Nat.le_refl _⟩ rfl rfl (Nat.le_of_ble_eq_true rfl) dX3_readCondition_66 ?_
          refine z_goto (tgt := 123) S dX3_readCondition_69 (by decide) ?_
          exact p_X3_readCondition_J12_123 S h_v1 he hc hx hr
      · refine z_iconst (v := 0) S dX3_readCondition_34 (by decide) ?_
        exact z_zret0 S (Prod.mk.inj (hr _ (Option.some.inj he).symm)) dX3_readCondition_35
set_option maxRecDepth 100000 in
set_option maxHeartbeats 4000000 in
theorem K_X3_readCondition {X : Cx} {l : Launch} {M : Mm} {a1 : Nat} {r : Bool} {N : Mm} (h_a1 : OK 0 a1 2) (he : f_X3_readCondition M a1 = some (r, N)) : KI X 0 l yX3_readCondition (wz yX3_readCondition cX3_readCondition 3 (some .boolean)) rm_X3_readCondition [.ref (X.2.2 102), .ref (X.2.2 a1)] M (bI r) N := by
  intro sz
  refine K_of (Qc := (fun sz => QI X 0 (bI r) N sz)) (own := RX3) (lv0 := [(0, .ref (X.2.2 102)), (1, .ref (X.2.2 a1))]) (by decide +kernel) rfl (Nat.le_of_ble_eq_true rfl) rfl (fun p e s m args below meth c S => ?_) sz
  · unfold f_X3_readCondition at he
    refine z_aload_n S dX3_readCondition_0 rfl 0 rfl ?_
    refine z_iconst (v := 0) S dX3_readCondition_1 (by decide) ?_
    refine z_putIb S fo_RX3_80p rfl ok_102 rfl rfl he dX3_readCondition_2 (fun M1 he => ?_)
    refine z_aload_n S dX3_readCondition_5 rfl 0 rfl ?_
    refine z_iconst (v := 0) S dX3_readCondition_6 (by decide) ?_
    refine z_putIb S fo_RX3_84p rfl ok_102 rfl rfl he dX3_readCondition_7 (fun M2 he => ?_)
    refine z_iconst (v := 0) S dX3_readCondition_10 (by decide) ?_
    refine z_istore_n (lv' := [(0, .ref (X.2.2 102)), (1, .ref (X.2.2 a1)), (2, .int 0)]) S [1, 2, 0] dX3_readCondition_11 rfl (by decide) rfl ?_
    obtain ⟨r9, hl, hr1, hr2⟩ := bndS he
    have hX : ∀ e_17, r9 = .inr e_17 → Z X 0 p l e rm_X3_readCondition s m args below meth c 0 0 (MQ below (QI X 0 (bI r) N s.heap.size) args s 0 0 (AA X 0 s.heap.size)) 3 e_17 136 [(0, .ref (X.2.2 102))] [] := by
      intro e_17 hre
      have he := hr2 e_17 hre
      refine z_aload_n S dX3_readCondition_136 rfl 0 rfl ?_
      refine z_getF (j := 104) S fo_RX3_14 2 rfl rfl ok_102 dX3_readCondition_137 ?_
      obtain ⟨⟨r18, M19⟩, h9, he⟩ := bnd he
      dsimp only at he
      refine z_cVI (As := []) S cv_RX3_50 (K_X7_refuse ok_104 (Option.some.inj h9)) ok_104 (by decide) (q := (RX7, TX7, 9)) rfl rfl ⟨rfl, rfl⟩ ⟨Nat.le_of_ble_eq_true rfl, Nat.le_of_ble_eq_true rfl⟩ ⟨Nat.le_refl _, Nat.le_refl _⟩ rfl rfl (Nat.le_of_ble_eq_true rfl) dX3_readCondition_140 ?_
      exact z_zret S (Prod.mk.inj (Option.some.inj he)) dX3_readCondition_143
    exact loopZ (Zh := (fun a_17 => Z X 0 p l e rm_X3_readCondition s m args below meth c 0 0 (MQ below (QI X 0 (bI r) N s.heap.size) args s 0 0 (AA X 0 s.heap.size)) 3 a_17.1 12 [(0, .ref (X.2.2 102)), (1, .ref (X.2.2 a1)), (2, .int a_17.2)] [])) (fun a_17 x hb hc hr9 => p_X3_readCondition_L12 S h_a1 hb hc (fun b hxe => hX b (hr9 _ hxe).symm) (fun v hxv => Option.some.inj (hr1 v (hr9 _ hxv).symm))) FU _ hl
set_option maxRecDepth 100000 in
set_option maxHeartbeats 4000000 in
theorem K_X2_endLine {X : Cx} {l : Launch} {M : Mm} {a0 : Nat} {a1 : Int32} {a2 : Int32} {N : Mm} (h_a0 : OK 0 a0 2) (he : f_X2_endLine M a0 a1 a2 = some N) : KV X 0 l yX2_endLine (wz yX2_endLine cX2_endLine 3 none) rm_X2_endLine [.ref (X.2.2 a0), .int a1, .int a2] M N := by
  intro sz
  refine K_of (Qc := (fun sz => QV X 0 N sz)) (own := RX2) (lv0 := [(0, .ref (X.2.2 a0)), (1, .int a1), (2, .int a2)]) (by decide +kernel) rfl (Nat.le_of_ble_eq_true rfl) rfl (fun p e s m args below meth c S => ?_) sz
  · unfold f_X2_endLine at he
    refine z_aload_n S dX2_endLine_0 rfl 0 rfl ?_
    refine z_getF (j := (a0 + 2)) S fo_RX2_15 2 rfl rfl h_a0 dX2_endLine_1 ?_
    refine z_aload_n S dX2_endLine_4 rfl 0 rfl ?_
    refine z_getI S fo_RX2_27 rfl h_a0 dX2_endLine_5 ?_
    refine z_iload_n S dX2_endLine_8 rfl 1 rfl ?_
    obtain ⟨M1, h9, he⟩ := bnd he
    refine z_cNV (As := [.ref (X.2.2 (a0 + 2)), .int (gI M a0 6), .int a1]) S cn_RX2_40 (K_X9_put (okf2_2 h_a0).1 h9) ⟨rfl, rfl⟩ ⟨Nat.le_of_ble_eq_true rfl, Nat.le_of_ble_eq_true rfl⟩ ⟨Nat.le_refl _, Nat.le_refl _⟩ rfl rfl (Nat.le_of_ble_eq_true rfl) dX2_endLine_9 ?_
    refine z_aload_n S dX2_endLine_12 rfl 0 rfl ?_
    refine z_getF (j := (a0 + 1)) S fo_RX2_9 1 rfl rfl h_a0 dX2_endLine_13 ?_
    refine z_aload_n S dX2_endLine_16 rfl 0 rfl ?_
    refine z_getI S fo_RX2_27 rfl h_a0 dX2_endLine_17 ?_
    refine z_iload_n S dX2_endLine_20 rfl 2 rfl ?_
    obtain ⟨M2, h9, he⟩ := bnd he
    refine z_cNV (As := [.ref (X.2.2 (a0 + 1)), .int (gI M1 a0 6), .int a2]) S cn_RX2_40 (K_X9_put (okf2_1 h_a0).1 h9) ⟨rfl, rfl⟩ ⟨Nat.le_of_ble_eq_true rfl, Nat.le_of_ble_eq_true rfl⟩ ⟨Nat.le_refl _, Nat.le_refl _⟩ rfl rfl (Nat.le_of_ble_eq_true rfl) dX2_endLine_21 ?_
    refine z_aload_n S dX2_endLine_24 rfl 0 rfl ?_
    refine z_getF (j := (a0 + 3)) S fo_RX2_18 3 rfl rfl h_a0 dX2_endLine_25 ?_
    refine z_aload_n S dX2_endLine_28 rfl 0 rfl ?_
    refine z_getI S fo_RX2_27 rfl h_a0 dX2_endLine_29 ?_
    refine z_aload_n S dX2_endLine_32 rfl 0 rfl ?_
    refine z_getI S fo_RX2_31 rfl h_a0 dX2_endLine_33 ?_
    obtain ⟨M3, h9, he⟩ := bnd he
    refine z_cNV (As := [.ref (X.2.2 (a0 + 3)), .int (gI M2 a0 6), .int (gI M2 a0 5)]) S cn_RX2_40 (K_X9_put (okf2_3 h_a0).1 h9) ⟨rfl, rfl⟩ ⟨Nat.le_of_ble_eq_true rfl, Nat.le_of_ble_eq_true rfl⟩ ⟨Nat.le_refl _, Nat.le_refl _⟩ rfl rfl (Nat.le_of_ble_eq_true rfl) dX2_endLine_36 ?_
    refine z_aload_n S dX2_endLine_39 rfl 0 rfl ?_
    refine z_dup S rfl dX2_endLine_40 ?_
    refine z_getI S fo_RX2_27 rfl h_a0 dX2_endLine_41 ?_
    refine z_iconst (v := 1) S dX2_endLine_44 (by decide) ?_
    refine z_iadd S dX2_endLine_45 ?_
    refine z_putIb S fo_RX2_27p rfl h_a0 rfl rfl he dX2_endLine_46 (fun M4 he => ?_)
    exact z_vret S (Option.some.inj he) dX2_endLine_49
set_option maxRecDepth 100000 in
set_option maxHeartbeats 4000000 in
theorem p_X3_readLine_J150 {X : Cx} {p : Program} {l : Launch} {e : Env} {s : State} {m : MethodId} {args : Array Value} {below : List Frame} {meth : Method} {c : Code} (S : SB X 0 p s m args meth c cX3_readLine 5 (some .boolean) RX3) {M : Mm} {N : Mm} {r : Bool} {t0 : Int32} {t1 : Int32} {t2 : Nat} (h_t2 : OK 0 t2 2) (he : f_X3_readLine_J150 M t0 t1 t2 = some (r, N)) : Z X 0 p l e rm_X3_readLine s m args below meth c 0 0 (MQ below (QI X 0 (bI r) N s.heap.size) args s 0 0 (AA X 0 s.heap.size)) 5 M 150 [] [.int t0, .int t1, .ref (X.2.2 t2)] := by
  unfold f_X3_readLine_J150 at he
  obtain ⟨M9, h9, he⟩ := bnd he
  refine z_cVV (As := [.int t1, .int t0]) S cv_RX3_76 (K_X2_endLine h_t2 h9) h_t2 (by decide) (q := (RX2, TX2, 7)) rfl rfl ⟨rfl, rfl⟩ ⟨Nat.le_of_ble_eq_true rfl, Nat.le_of_ble_eq_true rfl⟩ ⟨Nat.le_refl _, Nat.le_refl _⟩ rfl rfl (Nat.le_of_ble_eq_true rfl) dX3_readLine_150 ?_
  refine z_iconst (v := 1) S dX3_readLine_153 (by decide) ?_
  exact z_zret1 S (Prod.mk.inj (Option.some.inj he)) dX3_readLine_154
set_option maxRecDepth 100000 in
set_option maxHeartbeats 4000000 in
theorem p_X3_readLine_J136 {X : Cx} {p : Program} {l : Launch} {e : Env} {s : State} {m : MethodId} {args : Array Value} {below : List Frame} {meth : Method} {c : Code} (S : SB X 0 p s m args meth c cX3_readLine 5 (some .boolean) RX3) {M : Mm} {N : Mm} {r : Bool} {v1 : Nat} {v2 : Int32} {v3 : Int32} {v4 : Int32} (h_v1 : OK 0 v1 2) (he : f_X3_readLine_J136 M v1 v2 v3 v4 = some (r, N)) : Z X 0 p l e rm_X3_readLine s m args below meth c 0 0 (MQ below (QI X 0 (bI r) N s.heap.size) args s 0 0 (AA X 0 s.heap.size)) 5 M 136 [(1, .ref (X.2.2 v1)), (2, .int v2), (3, .int v3), (4, .int v4)] [] := by
  unfold f_X3_readLine_J136 at he
  refine z_aload_n S dX3_readLine_136 rfl 0 rfl ?_
  refine z_iload_n S dX3_readLine_137 rfl 2 rfl ?_
  refine z_iload_n S dX3_readLine_138 rfl 1 rfl ?_
  refine z_if_eq (tgt := 147) S he dX3_readLine_139 (by decide) (fun he => ?_) (fun he => ?_)
  · refine z_iload S dX3_readLine_147 3 rfl ?_
    refine z_ineg S dX3_readLine_149 ?_
    refine z_lv (ks := []) rfl ?_
    exact p_X3_readLine_J150 S h_v1 he
  · refine z_iload S dX3_readLine_142 3 rfl ?_
    refine z_goto (tgt := 150) S dX3_readLine_144 (by decide) ?_
    refine z_lv (ks := []) rfl ?_
    exact p_X3_readLine_J150 S h_v1 he
set_option maxRecDepth 100000 in
set_option maxHeartbeats 4000000 in
theorem p_X3_readLine_J73 {X : Cx} {p : Program} {l : Launch} {e : Env} {s : State} {m : MethodId} {args : Array Value} {below : List Frame} {meth : Method} {c : Code} (S : SB X 0 p s m args meth c cX3_readLine 5 (some .boolean) RX3) {M : Mm} {N : Mm} {r : Bool} {v1 : Nat} {v2 : Int32} {v3 : Int32} (h_v1 : OK 0 v1 2) (he : f_X3_readLine_J73 M v1 v2 v3 = some (r, N)) : Z X 0 p l e rm_X3_readLine s m args below meth c 0 0 (MQ below (QI X 0 (bI r) N s.heap.size) args s 0 0 (AA X 0 s.heap.size)) 5 M 73 [(0, .ref (X.2.2 102)), (1, .ref (X.2.2 v1)), (2, .int v2), (3, .int v3)] [] := by
  unfold f_X3_readLine_J73 at he
  refine z_aload_n S dX3_readLine_73 rfl 0 rfl ?_
  refine z_getF (j := 104) S fo_RX3_14 2 rfl rfl ok_102 dX3_readLine_74 ?_
  obtain ⟨M4, h9, he⟩ := bnd he
  refine z_cVV (As := []) S cv_RX3_67 (K_X7_next ok_104 h9) ok_104 (by decide) (q := (RX7, TX7, 9)) rfl rfl ⟨rfl, rfl⟩ ⟨Nat.le_of_ble_eq_true rfl, Nat.le_of_ble_eq_true rfl⟩ ⟨Nat.le_refl _, Nat.le_refl _⟩ rfl rfl (Nat.le_of_ble_eq_true rfl) dX3_readLine_77 ?_
  refine z_aload_n S dX3_readLine_80 rfl 0 rfl ?_
  refine z_getF (j := 104) S fo_RX3_14 2 rfl rfl ok_102 dX3_readLine_81 ?_
  refine z_iconst (v := 0) S dX3_readLine_84 (by decide) ?_
  refine z_bipush (v := 99) S dX3_readLine_85 (by decide) ?_
  obtain ⟨r5, h9, he⟩ := bnd he
  refine z_cVI (As := [.int 0, .int 99]) S cv_RX3_60 (K_X7_numberWithin ok_104 h9) ok_104 (by decide) (q := (RX7, TX7, 9)) rfl rfl ⟨rfl, rfl⟩ ⟨Nat.le_of_ble_eq_true rfl, Nat.le_of_ble_eq_true rfl⟩ ⟨Nat.le_refl _, Nat.le_refl _⟩ rfl rfl (Nat.le_of_ble_eq_true rfl) dX3_readLine_87 ?_
  refine z_istore (lv' := [(0, .ref (X.2.2 102)), (1, .ref (X.2.2 v1)), (2, .int v2), (3, .int v3), (4, .int r5)]) S [1, 2, 3, 4, 0] dX3_readLine_90 (by decide) rfl ?_
  refine z_iload S dX3_readLine_92 4 rfl ?_
  refine z_iconst (v := (-1)) S dX3_readLine_94 (by decide) ?_
  refine z_icmp_ne (tgt := 106) S he dX3_readLine_95 (by decide) (fun he => ?_) (fun he => ?_)
  · refine z_aload_n S dX3_readLine_106 rfl 0 rfl ?_
    refine z_getF (j := 104) S fo_RX3_14 2 rfl rfl ok_102 dX3_readLine_107 ?_
    obtain ⟨M6, h9, he⟩ := bnd he
    refine z_cVV (As := []) S cv_RX3_67 (K_X7_next ok_104 h9) ok_104 (by decide) (q := (RX7, TX7, 9)) rfl rfl ⟨rfl, rfl⟩ ⟨Nat.le_of_ble_eq_true rfl, Nat.le_of_ble_eq_true rfl⟩ ⟨Nat.le_refl _, Nat.le_refl _⟩ rfl rfl (Nat.le_of_ble_eq_true rfl) dX3_readLine_110 ?_
    refine z_aload_n S dX3_readLine_113 rfl 0 rfl ?_
    refine z_getF (j := 104) S fo_RX3_14 2 rfl rfl ok_102 dX3_readLine_114 ?_
    refine z_getW (i := 12) (j := 312) S (by decide) rfl rfl gw_RX3_70 dX3_readLine_117 ?_
    obtain ⟨⟨r7, M8⟩, h9, he⟩ := bnd he
    dsimp only at he
    refine z_cVI (As := [.ref (X.2.2 312)]) S cv_RX3_46 (K_X7_skip ok_104 (isW_add (i := 12) (by decide)) h9) ok_104 (by decide) (q := (RX7, TX7, 9)) rfl rfl ⟨rfl, rfl⟩ ⟨Nat.le_of_ble_eq_true rfl, Nat.le_of_ble_eq_true rfl⟩ ⟨Nat.le_refl _, Nat.le_refl _⟩ rfl rfl (Nat.le_of_ble_eq_true rfl) dX3_readLine_120 ?_
    refine z_ifb_eq (tgt := 136) S he dX3_readLine_123 (by decide) (fun he => ?_) (fun he => ?_)
    · refine z_lv (ks := [1, 2, 3, 4]) rfl ?_
      exact p_X3_readLine_J136 S h_v1 he
    · refine z_aload_n S dX3_readLine_126 rfl 0 rfl ?_
      refine z_aload_n S dX3_readLine_127 rfl 1 rfl ?_
      obtain ⟨⟨r10, M11⟩, h9, he⟩ := bnd he
      dsimp only at he
      refine z_cVI (As := [.ref (X.2.2 v1)]) S cv_RX3_73 (K_X3_readCondition h_v1 h9) ok_102 (by decide) (q := (RX3, TX3, 4)) rfl rfl ⟨rfl, rfl⟩ ⟨Nat.le_of_ble_eq_true rfl, Nat.le_of_ble_eq_true rfl⟩ ⟨Nat.le_refl _, Nat.le_refl _⟩ rfl rfl (Nat.le_of_ble_eq_true rfl) dX3_readLine_128 ?_
      refine z_ifb_ne (tgt := 136) S he dX3_readLine_131 (by decide) (fun he => ?_) (fun he => ?_)
      · refine z_lv (ks := [1, 2, 3, 4]) rfl ?_
        exact p_X3_readLine_J136 S h_v1 he
      · refine z_iconst (v := 0) S dX3_readLine_134 (by decide) ?_
        exact z_zret0 S (Prod.mk.inj (Option.some.inj he)) dX3_readLine_135
  · refine z_aload_n S dX3_readLine_98 rfl 0 rfl ?_
    refine z_getF (j := 104) S fo_RX3_14 2 rfl rfl ok_102 dX3_readLine_99 ?_
    obtain ⟨⟨r12, M13⟩, h9, he⟩ := bnd he
    dsimp only at he
    refine z_cVI (As := []) S cv_RX3_50 (K_X7_refuse ok_104 (Option.some.inj h9)) ok_104 (by decide) (q := (RX7, TX7, 9)) rfl rfl ⟨rfl, rfl⟩ ⟨Nat.le_of_ble_eq_true rfl, Nat.le_of_ble_eq_true rfl⟩ ⟨Nat.le_refl _, Nat.le_refl _⟩ rfl rfl (Nat.le_of_ble_eq_true rfl) dX3_readLine_102 ?_
    exact z_zret S (Prod.mk.inj (Option.some.inj he)) dX3_readLine_105
set_option maxRecDepth 100000 in
set_option maxHeartbeats 4000000 in
theorem p_X3_readLine_J36 {X : Cx} {p : Program} {l : Launch} {e : Env} {s : State} {m : MethodId} {args : Array Value} {below : List Frame} {meth : Method} {c : Code} (S : SB X 0 p s m args meth c cX3_readLine 5 (some .boolean) RX3) {M : Mm} {N : Mm} {r : Bool} {v1 : Nat} {v2 : Int32} (h_v1 : OK 0 v1 2) (he : f_X3_readLine_J36 M v1 v2 = some (r, N)) : Z X 0 p l e rm_X3_readLine s m args below meth c 0 0 (MQ below (QI X 0 (bI r) N s.heap.size) args s 0 0 (AA X 0 s.heap.size)) 5 M 36 [(0, .ref (X.2.2 102)), (1, .ref (X.2.2 v1)), (2, .int v2)] [] := by
  unfold f_X3_readLine_J36 at he
  refine z_aload_n S dX3_readLine_36 rfl 0 rfl ?_
  refine z_getF (j := 104) S fo_RX3_14 2 rfl rfl ok_102 dX3_readLine_37 ?_
  refine z_iconst (v := 0) S dX3_readLine_40 (by decide) ?_
  refine z_bipush (v := 8) S dX3_readLine_41 (by decide) ?_
  obtain ⟨r3, h9, he⟩ := bnd he
  refine z_cVI (As := [.int 0, .int 8]) S cv_RX3_60 (K_X7_numberWithin ok_104 h9) ok_104 (by decide) (q := (RX7, TX7, 9)) rfl rfl ⟨rfl, rfl⟩ ⟨Nat.le_of_ble_eq_true rfl, Nat.le_of_ble_eq_true rfl⟩ ⟨Nat.le_refl _, Nat.le_refl _⟩ rfl rfl (Nat.le_of_ble_eq_true rfl) dX3_readLine_43 ?_
  refine z_istore_n (lv' := [(0, .ref (X.2.2 102)), (1, .ref (X.2.2 v1)), (2, .int v2), (3, .int r3)]) S [1, 2, 3, 0] dX3_readLine_46 rfl (by decide) rfl ?_
  refine z_iload_n S dX3_readLine_47 rfl 3 rfl ?_
  refine z_iconst (v := (-1)) S dX3_readLine_48 (by decide) ?_
  refine z_icmp_ne (tgt := 73) S he dX3_readLine_49 (by decide) (fun he => ?_) (fun he => ?_)
  · exact p_X3_readLine_J73 S h_v1 he
  · refine z_aload_n S dX3_readLine_52 rfl 0 rfl ?_
    refine z_getF (j := 104) S fo_RX3_14 2 rfl rfl ok_102 dX3_readLine_53 ?_
    refine z_getWd S fo_RX3_30 rfl ok_104 he dX3_readLine_56 (fun q14 hq14 he => ?_)
    refine z_getW (i := 11) (j := 311) S (by decide) rfl rfl gw_RX3_64 dX3_readLine_59 ?_
    refine z_acmp_eq (tgt := 73) S hq14 (isW_add (i := 11) (by decide)) he dX3_readLine_62 (by decide) (fun he => ?_) (fun he => ?_)
    · exact p_X3_readLine_J73 S h_v1 he
    · refine z_aload_n S dX3_readLine_65 rfl 0 rfl ?_
      refine z_getF (j := 104) S fo_RX3_14 2 rfl rfl ok_102 dX3_readLine_66 ?_
      obtain ⟨⟨r15, M16⟩, h9, he⟩ := bnd he
      dsimp only at he
      refine z_cVI (As := []) S cv_RX3_50 (K_X7_refuse ok_104 (Option.some.inj h9)) ok_104 (by decide) (q := (RX7, TX7, 9)) rfl rfl ⟨rfl, rfl⟩ ⟨Nat.le_of_ble_eq_true rfl, Nat.le_of_ble_eq_true rfl⟩ ⟨Nat.le_refl _, Nat.le_refl _⟩ rfl rfl (Nat.le_of_ble_eq_true rfl) dX3_readLine_69 ?_
      exact z_zret S (Prod.mk.inj (Option.some.inj he)) dX3_readLine_72
set_option maxRecDepth 100000 in
set_option maxHeartbeats 4000000 in
theorem K_X3_readLine {X : Cx} {l : Launch} {M : Mm} {a1 : Nat} {r : Bool} {N : Mm} (h_a1 : OK 0 a1 2) (he : f_X3_readLine M a1 = some (r, N)) : KI X 0 l yX3_readLine (wz yX3_readLine cX3_readLine 5 (some .boolean)) rm_X3_readLine [.ref (X.2.2 102), .ref (X.2.2 a1)] M (bI r) N := by
  intro sz
  refine K_of (Qc := (fun sz => QI X 0 (bI r) N sz)) (own := RX3) (lv0 := [(0, .ref (X.2.2 102)), (1, .ref (X.2.2 a1))]) (by decide +kernel) rfl (Nat.le_of_ble_eq_true rfl) rfl (fun p e s m args below meth c S => ?_) sz
  · unfold f_X3_readLine at he
    refine z_aload_n S dX3_readLine_0 rfl 0 rfl ?_
    refine z_getF (j := 104) S fo_RX3_14 2 rfl rfl ok_102 dX3_readLine_1 ?_
    refine z_getW (i := 9) (j := 309) S (by decide) rfl rfl gw_RX3_54 dX3_readLine_4 ?_
    obtain ⟨⟨r1, M2⟩, h9, he⟩ := bnd he
    dsimp only at he
    refine z_cVI (As := [.ref (X.2.2 309)]) S cv_RX3_46 (K_X7_skip ok_104 (isW_add (i := 9) (by decide)) h9) ok_104 (by decide) (q := (RX7, TX7, 9)) rfl rfl ⟨rfl, rfl⟩ ⟨Nat.le_of_ble_eq_true rfl, Nat.le_of_ble_eq_true rfl⟩ ⟨Nat.le_refl _, Nat.le_refl _⟩ rfl rfl (Nat.le_of_ble_eq_true rfl) dX3_readLine_7 ?_
    refine z_istore_n (lv' := [(0, .ref (X.2.2 102)), (1, .ref (X.2.2 a1)), (2, .int (bI r1))]) S [1, 2, 0] dX3_readLine_10 rfl (by decide) rfl ?_
    refine z_iload_n S dX3_readLine_11 rfl 2 rfl ?_
    refine z_ifb_ne (tgt := 36) S he dX3_readLine_12 (by decide) (fun he => ?_) (fun he => ?_)
    · exact p_X3_readLine_J36 S h_a1 he
    · refine z_aload_n S dX3_readLine_15 rfl 0 rfl ?_
      refine z_getF (j := 104) S fo_RX3_14 2 rfl rfl ok_102 dX3_readLine_16 ?_
      refine z_getW (i := 10) (j := 310) S (by decide) rfl rfl gw_RX3_57 dX3_readLine_19 ?_
      obtain ⟨⟨r17, M18⟩, h9, he⟩ := bnd he
      dsimp only at he
      refine z_cVI (As := [.ref (X.2.2 310)]) S cv_RX3_46 (K_X7_skip ok_104 (isW_add (i := 10) (by decide)) h9) ok_104 (by decide) (q := (RX7, TX7, 9)) rfl rfl ⟨rfl, rfl⟩ ⟨Nat.le_of_ble_eq_true rfl, Nat.le_of_ble_eq_true rfl⟩ ⟨Nat.le_refl _, Nat.le_refl _⟩ rfl rfl (Nat.le_of_ble_eq_true rfl) dX3_readLine_22 ?_
      refine z_ifb_ne (tgt := 36) S he dX3_readLine_25 (by decide) (fun he => ?_) (fun he => ?_)
      · exact p_X3_readLine_J36 S h_a1 he
      · refine z_aload_n S dX3_readLine_28 rfl 0 rfl ?_
        refine z_getF (j := 104) S fo_RX3_14 2 rfl rfl ok_102 dX3_readLine_29 ?_
        obtain ⟨⟨r19, M20⟩, h9, he⟩ := bnd he
        dsimp only at he
        refine z_cVI (As := []) S cv_RX3_50 (K_X7_refuse ok_104 (Option.some.inj h9)) ok_104 (by decide) (q := (RX7, TX7, 9)) rfl rfl ⟨rfl, rfl⟩ ⟨Nat.le_of_ble_eq_true rfl, Nat.le_of_ble_eq_true rfl⟩ ⟨Nat.le_refl _, Nat.le_refl _⟩ rfl rfl (Nat.le_of_ble_eq_true rfl) dX3_readLine_32 ?_
        exact z_zret S (Prod.mk.inj (Option.some.inj he)) dX3_readLine_35
