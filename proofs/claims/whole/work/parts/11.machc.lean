def HR_gfinds (X : Cx) (l : Launch) (d : Nat) (rc : RT_gfinds) : Prop := (∀ (M : Mm) (a1 : Int32) (a2 : Int32) (r : Bool) (N : Mm), rc M a1 a2 = some (r, N) → KI X 1 l yX10_finds (wz yX10_finds cX10_finds 5 (some .boolean)) (rmr_gfinds d) [.ref (X.2.2 200), .int a1, .int a2] M (bI r) N)
set_option maxRecDepth 100000 in
set_option maxHeartbeats 4000000 in
theorem p_X10_finds_L2 {X : Cx} {p : Program} {l : Launch} {e : Env} {s : State} {m : MethodId} {args : Array Value} {below : List Frame} {meth : Method} {c : Code} {d9 : Nat} {rc : RT_gfinds} (hrc : HR_gfinds X l d9 rc) (S : SB X 1 p s m args meth c cX10_finds 5 (some .boolean) RX10) {M : Mm} {N : Mm} {r : Bool} {v1 : Int32} {v2 : Int32} {v3 : Int32} {x : (Mm × Int32) ⊕ ((Bool × Mm) ⊕ Mm)}  (he : f_X10_finds_L2 rc M v1 v2 v3 = some x) (hc : ∀ b, x = .inl b → Z X 1 p l e (rmr_gfinds (d9 + 1)) s m args below meth c 0 0 (MQ below (QI X 1 (bI r) N s.heap.size) args s 0 0 (AA X 1 s.heap.size)) 5 b.1 2 [(0, .ref (X.2.2 200)), (1, .int v1), (2, .int v2), (3, .int b.2)] []) (hx : ∀ b, x = .inr (.inr b) → Z X 1 p l e (rmr_gfinds (d9 + 1)) s m args below meth c 0 0 (MQ below (QI X 1 (bI r) N s.heap.size) args s 0 0 (AA X 1 s.heap.size)) 5 b 72 [(0, .ref (X.2.2 200)), (1, .int v1), (2, .int v2)] []) (hr : ∀ v, x = .inr (.inl v) → v = (r, N)) : Z X 1 p l e (rmr_gfinds (d9 + 1)) s m args below meth c 0 0 (MQ below (QI X 1 (bI r) N s.heap.size) args s 0 0 (AA X 1 s.heap.size)) 5 M 2 [(0, .ref (X.2.2 200)), (1, .int v1), (2, .int v2), (3, .int v3)] [] := by
  unfold f_X10_finds_L2 at he
  refine z_iload_n S dX10_finds_2 rfl 3 rfl ?_
  refine z_aload_n S dX10_finds_3 rfl 0 rfl ?_
  refine z_getF (j := 201) S fo_RX10_7 1 rfl rfl ok_200 dX10_finds_4 ?_
  refine z_iconst (v := 3) S dX10_finds_7 (by decide) ?_
  refine z_iald S ok_201 rfl he dX10_finds_8 (fun he => ?_)
  refine z_icmp_ge (tgt := 72) S he dX10_finds_9 (by decide) (fun he => ?_) (fun he => ?_)
  · refine z_lv (ks := [0, 1, 2]) rfl ?_
    exact hx _ (Option.some.inj he).symm
  · refine z_aload_n S dX10_finds_12 rfl 0 rfl ?_
    refine z_getF (j := 212) S fo_RX10_47 12 rfl rfl ok_200 dX10_finds_13 ?_
    refine z_iload_n S dX10_finds_16 rfl 1 rfl ?_
    refine z_iald S ok_212 rfl he dX10_finds_17 (fun he => ?_)
    refine z_iload_n S dX10_finds_18 rfl 2 rfl ?_
    refine z_iconst (v := (-1)) S dX10_finds_19 (by decide) ?_
    refine z_ixor S dX10_finds_20 ?_
    refine z_iand S dX10_finds_21 ?_
    refine z_iload_n S dX10_finds_22 rfl 3 rfl ?_
    refine z_cSI (As := [.int ((gA M 212 v1) &&& (v2 ^^^ (-1))), .int v3]) S cs_RX10_117 (K_X10_isOf  rfl) ⟨rfl, rfl⟩ (rr_o rfl rfl) ⟨Nat.le_refl _, Nat.le_refl _⟩ rfl rfl (Nat.le_of_ble_eq_true rfl) dX10_finds_23 ?_
    refine z_ifb_eq (tgt := 66) S he dX10_finds_26 (by decide) (fun he => ?_) (fun he => ?_)
    · refine z_iinc (v := (v3 + 1)) (lv' := [(0, .ref (X.2.2 200)), (1, .int v1), (2, .int v2), (3, .int (v3 + 1))]) S [1, 2, 3, 0] 3 dX10_finds_66 rfl (by rfl) (by decide) rfl ?_
      refine z_goto (tgt := 2) S dX10_finds_69 (by decide) ?_
      refine z_lv (ks := [0, 1, 2, 3]) rfl ?_
      exact hc _ (Option.some.inj he).symm
    · refine z_aload_n S dX10_finds_29 rfl 0 rfl ?_
      refine z_getF (j := 210) S fo_RX10_41 10 rfl rfl ok_200 dX10_finds_30 ?_
      refine z_iload_n S dX10_finds_33 rfl 3 rfl ?_
      refine z_iald S ok_210 rfl he dX10_finds_34 (fun he => ?_)
      refine z_aload_n S dX10_finds_35 rfl 0 rfl ?_
      refine z_iload_n S dX10_finds_36 rfl 3 rfl ?_
      refine z_iconst (v := 2) S dX10_finds_37 (by decide) ?_
      obtain ⟨r1, h9, he⟩ := bnd he
      refine z_cVI (As := [.int v3, .int 2]) S cv_RX10_70 (K_X10_of  h9) ok_200 (by decide) (q := (RX10, TX10, 28)) rfl rfl ⟨rfl, rfl⟩ (rr_o rfl rfl) ⟨Nat.le_refl _, Nat.le_refl _⟩ rfl rfl (Nat.le_of_ble_eq_true rfl) dX10_finds_38 ?_
      refine z_icmp_ne (tgt := 47) S he dX10_finds_41 (by decide) (fun he => ?_) (fun he => ?_)
      · refine z_aload_n S dX10_finds_47 rfl 0 rfl ?_
        refine z_getF (j := 211) S fo_RX10_44 11 rfl rfl ok_200 dX10_finds_48 ?_
        refine z_iload_n S dX10_finds_51 rfl 1 rfl ?_
        refine z_iload_n S dX10_finds_52 rfl 3 rfl ?_
        refine z_iastb S ok_211 rfl he dX10_finds_53 (fun M2 he => ?_)
        refine z_aload_n S dX10_finds_54 rfl 0 rfl ?_
        refine z_getF (j := 210) S fo_RX10_41 10 rfl rfl ok_200 dX10_finds_55 ?_
        refine z_iload_n S dX10_finds_58 rfl 3 rfl ?_
        refine z_dup2 S dX10_finds_59 rfl rfl ?_
        refine z_iald S ok_210 rfl he dX10_finds_60 (fun he => ?_)
        refine z_iconst (v := 1) S dX10_finds_61 (by decide) ?_
        refine z_iadd S dX10_finds_62 ?_
        refine z_iastb S ok_210 rfl he dX10_finds_63 (fun M3 he => ?_)
        refine z_iconst (v := 1) S dX10_finds_64 (by decide) ?_
        exact z_zret1 S (Prod.mk.inj (hr _ (Option.some.inj he).symm)) dX10_finds_65
      · refine z_goto (tgt := 66) S dX10_finds_44 (by decide) ?_
        refine z_iinc (v := (v3 + 1)) (lv' := [(0, .ref (X.2.2 200)), (1, .int v1), (2, .int v2), (3, .int (v3 + 1))]) S [1, 2, 3, 0] 3 dX10_finds_66 rfl (by rfl) (by decide) rfl ?_
        refine z_goto (tgt := 2) S dX10_finds_69 (by decide) ?_
        refine z_lv (ks := [0, 1, 2, 3]) rfl ?_
        exact hc _ (Option.some.inj he).symm
set_option maxRecDepth 100000 in
set_option maxHeartbeats 4000000 in
theorem p_X10_finds_L74 {X : Cx} {p : Program} {l : Launch} {e : Env} {s : State} {m : MethodId} {args : Array Value} {below : List Frame} {meth : Method} {c : Code} {d9 : Nat} {rc : RT_gfinds} (hrc : HR_gfinds X l d9 rc) (S : SB X 1 p s m args meth c cX10_finds 5 (some .boolean) RX10) {M : Mm} {N : Mm} {r : Bool} {v1 : Int32} {v2 : Int32} {v3 : Int32} {x : (Mm × Int32) ⊕ ((Bool × Mm) ⊕ Mm)}  (he : f_X10_finds_L74 rc M v1 v2 v3 = some x) (hc : ∀ b, x = .inl b → Z X 1 p l e (rmr_gfinds (d9 + 1)) s m args below meth c 0 0 (MQ below (QI X 1 (bI r) N s.heap.size) args s 0 0 (AA X 1 s.heap.size)) 5 b.1 74 [(0, .ref (X.2.2 200)), (1, .int v1), (2, .int v2), (3, .int b.2)] []) (hx : ∀ b, x = .inr (.inr b) → Z X 1 p l e (rmr_gfinds (d9 + 1)) s m args below meth c 0 0 (MQ below (QI X 1 (bI r) N s.heap.size) args s 0 0 (AA X 1 s.heap.size)) 5 b 162 [] []) (hr : ∀ v, x = .inr (.inl v) → v = (r, N)) : Z X 1 p l e (rmr_gfinds (d9 + 1)) s m args below meth c 0 0 (MQ below (QI X 1 (bI r) N s.heap.size) args s 0 0 (AA X 1 s.heap.size)) 5 M 74 [(0, .ref (X.2.2 200)), (1, .int v1), (2, .int v2), (3, .int v3)] [] := by
  unfold f_X10_finds_L74 at he
  refine z_iload_n S dX10_finds_74 rfl 3 rfl ?_
  refine z_aload_n S dX10_finds_75 rfl 0 rfl ?_
  refine z_getF (j := 201) S fo_RX10_7 1 rfl rfl ok_200 dX10_finds_76 ?_
  refine z_iconst (v := 4) S dX10_finds_79 (by decide) ?_
  refine z_iald S ok_201 rfl he dX10_finds_80 (fun he => ?_)
  refine z_icmp_ge (tgt := 162) S he dX10_finds_81 (by decide) (fun he => ?_) (fun he => ?_)
  · refine z_lv (ks := []) rfl ?_
    exact hx _ (Option.some.inj he).symm
  · refine z_aload_n S dX10_finds_84 rfl 0 rfl ?_
    refine z_getF (j := 211) S fo_RX10_44 11 rfl rfl ok_200 dX10_finds_85 ?_
    refine z_iload_n S dX10_finds_88 rfl 3 rfl ?_
    refine z_iald S ok_211 rfl he dX10_finds_89 (fun he => ?_)
    refine z_iconst (v := (-1)) S dX10_finds_90 (by decide) ?_
    refine z_icmp_eq (tgt := 156) S he dX10_finds_91 (by decide) (fun he => ?_) (fun he => ?_)
    · refine z_iinc (v := (v3 + 1)) (lv' := [(0, .ref (X.2.2 200)), (1, .int v1), (2, .int v2), (3, .int (v3 + 1))]) S [1, 2, 3, 0] 3 dX10_finds_156 rfl (by rfl) (by decide) rfl ?_
      refine z_goto (tgt := 74) S dX10_finds_159 (by decide) ?_
      refine z_lv (ks := [0, 1, 2, 3]) rfl ?_
      exact hc _ (Option.some.inj he).symm
    · refine z_aload_n S dX10_finds_94 rfl 0 rfl ?_
      refine z_getF (j := 212) S fo_RX10_47 12 rfl rfl ok_200 dX10_finds_95 ?_
      refine z_iload_n S dX10_finds_98 rfl 1 rfl ?_
      refine z_iald S ok_212 rfl he dX10_finds_99 (fun he => ?_)
      refine z_iload_n S dX10_finds_100 rfl 2 rfl ?_
      refine z_iconst (v := (-1)) S dX10_finds_101 (by decide) ?_
      refine z_ixor S dX10_finds_102 ?_
      refine z_iand S dX10_finds_103 ?_
      refine z_aload_n S dX10_finds_104 rfl 0 rfl ?_
      refine z_getF (j := 211) S fo_RX10_44 11 rfl rfl ok_200 dX10_finds_105 ?_
      refine z_iload_n S dX10_finds_108 rfl 3 rfl ?_
      refine z_iald S ok_211 rfl he dX10_finds_109 (fun he => ?_)
      refine z_cSI (As := [.int ((gA M 212 v1) &&& (v2 ^^^ (-1))), .int (gA M 211 v3)]) S cs_RX10_117 (K_X10_isOf  rfl) ⟨rfl, rfl⟩ (rr_o rfl rfl) ⟨Nat.le_refl _, Nat.le_refl _⟩ rfl rfl (Nat.le_of_ble_eq_true rfl) dX10_finds_110 ?_
      refine z_ifb_ne (tgt := 119) S he dX10_finds_113 (by decide) (fun he => ?_) (fun he => ?_)
      · refine z_aload_n S dX10_finds_119 rfl 0 rfl ?_
        refine z_getF (j := 211) S fo_RX10_44 11 rfl rfl ok_200 dX10_finds_120 ?_
        refine z_iload_n S dX10_finds_123 rfl 3 rfl ?_
        refine z_iald S ok_211 rfl he dX10_finds_124 (fun he => ?_)
        refine z_istore (lv' := [(0, .ref (X.2.2 200)), (1, .int v1), (2, .int v2), (3, .int v3), (4, .int (gA M 211 v3))]) S [1, 2, 3, 4, 0] dX10_finds_125 (by decide) rfl ?_
        refine z_aload_n S dX10_finds_127 rfl 0 rfl ?_
        refine z_iload_n S dX10_finds_128 rfl 3 rfl ?_
        refine z_iload_n S dX10_finds_129 rfl 2 rfl ?_
        refine z_aload_n S dX10_finds_130 rfl 0 rfl ?_
        refine z_getF (j := 212) S fo_RX10_47 12 rfl rfl ok_200 dX10_finds_131 ?_
        refine z_iload_n S dX10_finds_134 rfl 1 rfl ?_
        refine z_iald S ok_212 rfl he dX10_finds_135 (fun he => ?_)
        refine z_ior S dX10_finds_136 ?_
        obtain ⟨⟨r5, M6⟩, h9, he⟩ := bnd he
        dsimp only at he
        refine z_cVI (As := [.int v3, .int (v2 ||| (gA M 212 v1))]) S cv_RX10_315 (hrc _ _ _ _ _  h9) ok_200 (by decide) (q := (RX10, TX10, 28)) rfl rfl ⟨rfl, rfl⟩ (rr_r rfl) ⟨Nat.le_refl _, Nat.le_refl _⟩ rfl rfl (Nat.le_of_ble_eq_true rfl) dX10_finds_137 ?_
        refine z_ifb_ne (tgt := 146) S he dX10_finds_140 (by decide) (fun he => ?_) (fun he => ?_)
        · refine z_aload_n S dX10_finds_146 rfl 0 rfl ?_
          refine z_getF (j := 211) S fo_RX10_44 11 rfl rfl ok_200 dX10_finds_147 ?_
          refine z_iload_n S dX10_finds_150 rfl 1 rfl ?_
          refine z_iload S dX10_finds_151 4 rfl ?_
          refine z_iastb S ok_211 rfl he dX10_finds_153 (fun M7 he => ?_)
          refine z_iconst (v := 1) S dX10_finds_154 (by decide) ?_
          exact z_zret1 S (Prod.mk.inj (hr _ (Option.some.inj he).symm)) dX10_finds_155
        · refine z_goto (tgt := 156) S dX10_finds_143 (by decide) ?_
          refine z_iinc (v := (v3 + 1)) (lv' := [(0, .ref (X.2.2 200)), (1, .int v1), (2, .int v2), (3, .int (v3 + 1)), (4, .int (gA M 211 v3))]) S [1, 2, 3, 0, 4] 3 dX10_finds_156 rfl (by rfl) (by decide) rfl ?_
          refine z_goto (tgt := 74) S dX10_finds_159 (by decide) ?_
          refine z_lv (ks := [0, 1, 2, 3]) rfl ?_
          exact hc _ (Option.some.inj he).symm
      · refine z_goto (tgt := 156) S dX10_finds_116 (by decide) ?_
        refine z_iinc (v := (v3 + 1)) (lv' := [(0, .ref (X.2.2 200)), (1, .int v1), (2, .int v2), (3, .int (v3 + 1))]) S [1, 2, 3, 0] 3 dX10_finds_156 rfl (by rfl) (by decide) rfl ?_
        refine z_goto (tgt := 74) S dX10_finds_159 (by decide) ?_
        refine z_lv (ks := [0, 1, 2, 3]) rfl ?_
        exact hc _ (Option.some.inj he).symm
set_option maxRecDepth 100000 in
set_option maxHeartbeats 4000000 in
theorem KB_X10_finds {X : Cx} {l : Launch} {d9 : Nat} {rc : RT_gfinds} (hrc : HR_gfinds X l d9 rc) {M : Mm} {a1 : Int32} {a2 : Int32} {r : Bool} {N : Mm} (he : fB_X10_finds rc M a1 a2 = some (r, N)) : KI X 1 l yX10_finds (wz yX10_finds cX10_finds 5 (some .boolean)) (rmr_gfinds (d9 + 1)) [.ref (X.2.2 200), .int a1, .int a2] M (bI r) N := by
  intro sz
  refine K_of (Qc := (fun sz => QI X 1 (bI r) N sz)) (own := RX10) (lv0 := [(0, .ref (X.2.2 200)), (1, .int a1), (2, .int a2)]) (by decide +kernel) rfl (Nat.le_of_ble_eq_true rfl) rfl (fun p e s m args below meth c S => ?_) sz
  · unfold fB_X10_finds at he
    refine z_iconst (v := 0) S dX10_finds_0 (by decide) ?_
    refine z_istore_n (lv' := [(0, .ref (X.2.2 200)), (1, .int a1), (2, .int a2), (3, .int 0)]) S [1, 2, 3, 0] dX10_finds_1 rfl (by decide) rfl ?_
    obtain ⟨r9, hl, hr1, hr2⟩ := bndS he
    have hX : ∀ e_4, r9 = .inr e_4 → Z X 1 p l e (rmr_gfinds (d9 + 1)) s m args below meth c 0 0 (MQ below (QI X 1 (bI r) N s.heap.size) args s 0 0 (AA X 1 s.heap.size)) 5 e_4 72 [(0, .ref (X.2.2 200)), (1, .int a1), (2, .int a2)] [] := by
      intro e_4 hre
      have he := hr2 e_4 hre
      refine z_iconst (v := 0) S dX10_finds_72 (by decide) ?_
      refine z_istore_n (lv' := [(0, .ref (X.2.2 200)), (1, .int a1), (2, .int a2), (3, .int 0)]) S [1, 2, 3, 0] dX10_finds_73 rfl (by decide) rfl ?_
      obtain ⟨r9, hl, hr1, hr2⟩ := bndS he
      have hX : ∀ e_8, r9 = .inr e_8 → Z X 1 p l e (rmr_gfinds (d9 + 1)) s m args below meth c 0 0 (MQ below (QI X 1 (bI r) N s.heap.size) args s 0 0 (AA X 1 s.heap.size)) 5 e_8 162 [] [] := by
        intro e_8 hre
        have he := hr2 e_8 hre
        refine z_iconst (v := 0) S dX10_finds_162 (by decide) ?_
        exact z_zret0 S (Prod.mk.inj (Option.some.inj he)) dX10_finds_163
      exact loopZ (Zh := (fun a_8 => Z X 1 p l e (rmr_gfinds (d9 + 1)) s m args below meth c 0 0 (MQ below (QI X 1 (bI r) N s.heap.size) args s 0 0 (AA X 1 s.heap.size)) 5 a_8.1 74 [(0, .ref (X.2.2 200)), (1, .int a1), (2, .int a2), (3, .int a_8.2)] [])) (fun a_8 x hb hc hr9 => p_X10_finds_L74 hrc S  hb hc (fun b hxe => hX b (hr9 _ hxe).symm) (fun v hxv => Option.some.inj (hr1 v (hr9 _ hxv).symm))) FU _ hl
    exact loopZ (Zh := (fun a_4 => Z X 1 p l e (rmr_gfinds (d9 + 1)) s m args below meth c 0 0 (MQ below (QI X 1 (bI r) N s.heap.size) args s 0 0 (AA X 1 s.heap.size)) 5 a_4.1 2 [(0, .ref (X.2.2 200)), (1, .int a1), (2, .int a2), (3, .int a_4.2)] [])) (fun a_4 x hb hc hr9 => p_X10_finds_L2 hrc S  hb hc (fun b hxe => hX b (hr9 _ hxe).symm) (fun v hxv => Option.some.inj (hr1 v (hr9 _ hxv).symm))) FU _ hl
theorem HR_all_gfinds {X : Cx} {l : Launch} : ∀ d, HR_gfinds X l d (f_gfinds d) := by
  intro d
  induction d with
  | zero => exact fun M _ _ r N h => nomatch h
  | succ d ih => exact fun M b0 b1 r N h => KB_X10_finds ih h
theorem K_X10_finds {X : Cx} {l : Launch} {M : Mm} {a1 : Int32} {a2 : Int32} {r : Bool} {N : Mm} (he : f_X10_finds M a1 a2 = some (r, N)) : KI X 1 l yX10_finds (wz yX10_finds cX10_finds 5 (some .boolean)) rm_X10_finds [.ref (X.2.2 200), .int a1, .int a2] M (bI r) N := (HR_all_gfinds 40) M a1 a2 r N he
set_option maxRecDepth 100000 in
set_option maxHeartbeats 4000000 in
theorem p_X10_areHad_L2 {X : Cx} {p : Program} {l : Launch} {e : Env} {s : State} {m : MethodId} {args : Array Value} {below : List Frame} {meth : Method} {c : Code} (S : SB X 1 p s m args meth c cX10_areHad 3 (some .boolean) RX10) {M : Mm} {N : Mm} {r : Bool} {v1 : Int32} {v2 : Int32} {x : (Mm × Int32) ⊕ Mm}  (he : f_X10_areHad_L2 M v1 v2 = some x) (hc : ∀ b, x = .inl b → Z X 1 p l e rm_X10_areHad s m args below meth c 0 0 (MQ below (QI X 1 (bI r) N s.heap.size) args s 0 0 (AA X 1 s.heap.size)) 3 b.1 2 [(0, .ref (X.2.2 200)), (1, .int v1), (2, .int b.2)] []) (hx : ∀ b, x = .inr b → Z X 1 p l e rm_X10_areHad s m args below meth c 0 0 (MQ below (QI X 1 (bI r) N s.heap.size) args s 0 0 (AA X 1 s.heap.size)) 3 b 21 [(0, .ref (X.2.2 200)), (1, .int v1)] []) : Z X 1 p l e rm_X10_areHad s m args below meth c 0 0 (MQ below (QI X 1 (bI r) N s.heap.size) args s 0 0 (AA X 1 s.heap.size)) 3 M 2 [(0, .ref (X.2.2 200)), (1, .int v1), (2, .int v2)] [] := by
  unfold f_X10_areHad_L2 at he
  refine z_iload_n S dX10_areHad_2 rfl 2 rfl ?_
  refine z_bipush (v := 9) S dX10_areHad_3 (by decide) ?_
  refine z_icmp_ge (tgt := 21) S he dX10_areHad_5 (by decide) (fun he => ?_) (fun he => ?_)
  · refine z_lv (ks := [0, 1]) rfl ?_
    exact hx _ (Option.some.inj he).symm
  · refine z_aload_n S dX10_areHad_8 rfl 0 rfl ?_
    refine z_getF (j := 210) S fo_RX10_41 10 rfl rfl ok_200 dX10_areHad_9 ?_
    refine z_iload_n S dX10_areHad_12 rfl 2 rfl ?_
    refine z_iconst (v := 0) S dX10_areHad_13 (by decide) ?_
    refine z_iastb S ok_210 rfl he dX10_areHad_14 (fun M1 he => ?_)
    refine z_iinc (v := (v2 + 1)) (lv' := [(0, .ref (X.2.2 200)), (1, .int v1), (2, .int (v2 + 1))]) S [1, 2, 0] 2 dX10_areHad_15 rfl (by rfl) (by decide) rfl ?_
    refine z_goto (tgt := 2) S dX10_areHad_18 (by decide) ?_
    refine z_lv (ks := [0, 1, 2]) rfl ?_
    exact hc _ (Option.some.inj he).symm
set_option maxRecDepth 100000 in
set_option maxHeartbeats 4000000 in
theorem p_X10_areHad_L23 {X : Cx} {p : Program} {l : Launch} {e : Env} {s : State} {m : MethodId} {args : Array Value} {below : List Frame} {meth : Method} {c : Code} (S : SB X 1 p s m args meth c cX10_areHad 3 (some .boolean) RX10) {M : Mm} {N : Mm} {r : Bool} {v1 : Int32} {v2 : Int32} {x : (Mm × Int32) ⊕ Mm}  (he : f_X10_areHad_L23 M v1 v2 = some x) (hc : ∀ b, x = .inl b → Z X 1 p l e rm_X10_areHad s m args below meth c 0 0 (MQ below (QI X 1 (bI r) N s.heap.size) args s 0 0 (AA X 1 s.heap.size)) 3 b.1 23 [(0, .ref (X.2.2 200)), (1, .int v1), (2, .int b.2)] []) (hx : ∀ b, x = .inr b → Z X 1 p l e rm_X10_areHad s m args below meth c 0 0 (MQ below (QI X 1 (bI r) N s.heap.size) args s 0 0 (AA X 1 s.heap.size)) 3 b 42 [(0, .ref (X.2.2 200)), (1, .int v1)] []) : Z X 1 p l e rm_X10_areHad s m args below meth c 0 0 (MQ below (QI X 1 (bI r) N s.heap.size) args s 0 0 (AA X 1 s.heap.size)) 3 M 23 [(0, .ref (X.2.2 200)), (1, .int v1), (2, .int v2)] [] := by
  unfold f_X10_areHad_L23 at he
  refine z_iload_n S dX10_areHad_23 rfl 2 rfl ?_
  refine z_bipush (v := 10) S dX10_areHad_24 (by decide) ?_
  refine z_icmp_ge (tgt := 42) S he dX10_areHad_26 (by decide) (fun he => ?_) (fun he => ?_)
  · refine z_lv (ks := [0, 1]) rfl ?_
    exact hx _ (Option.some.inj he).symm
  · refine z_aload_n S dX10_areHad_29 rfl 0 rfl ?_
    refine z_getF (j := 211) S fo_RX10_44 11 rfl rfl ok_200 dX10_areHad_30 ?_
    refine z_iload_n S dX10_areHad_33 rfl 2 rfl ?_
    refine z_iconst (v := (-1)) S dX10_areHad_34 (by decide) ?_
    refine z_iastb S ok_211 rfl he dX10_areHad_35 (fun M3 he => ?_)
    refine z_iinc (v := (v2 + 1)) (lv' := [(0, .ref (X.2.2 200)), (1, .int v1), (2, .int (v2 + 1))]) S [1, 2, 0] 2 dX10_areHad_36 rfl (by rfl) (by decide) rfl ?_
    refine z_goto (tgt := 23) S dX10_areHad_39 (by decide) ?_
    refine z_lv (ks := [0, 1, 2]) rfl ?_
    exact hc _ (Option.some.inj he).symm
set_option maxRecDepth 100000 in
set_option maxHeartbeats 4000000 in
theorem p_X10_areHad_L44 {X : Cx} {p : Program} {l : Launch} {e : Env} {s : State} {m : MethodId} {args : Array Value} {below : List Frame} {meth : Method} {c : Code} (S : SB X 1 p s m args meth c cX10_areHad 3 (some .boolean) RX10) {M : Mm} {N : Mm} {r : Bool} {v1 : Int32} {v2 : Int32} {x : (Mm × Int32) ⊕ ((Bool × Mm) ⊕ Mm)}  (he : f_X10_areHad_L44 M v1 v2 = some x) (hc : ∀ b, x = .inl b → Z X 1 p l e rm_X10_areHad s m args below meth c 0 0 (MQ below (QI X 1 (bI r) N s.heap.size) args s 0 0 (AA X 1 s.heap.size)) 3 b.1 44 [(0, .ref (X.2.2 200)), (1, .int v1), (2, .int b.2)] []) (hx : ∀ b, x = .inr (.inr b) → Z X 1 p l e rm_X10_areHad s m args below meth c 0 0 (MQ below (QI X 1 (bI r) N s.heap.size) args s 0 0 (AA X 1 s.heap.size)) 3 b 79 [] []) (hr : ∀ v, x = .inr (.inl v) → v = (r, N)) : Z X 1 p l e rm_X10_areHad s m args below meth c 0 0 (MQ below (QI X 1 (bI r) N s.heap.size) args s 0 0 (AA X 1 s.heap.size)) 3 M 44 [(0, .ref (X.2.2 200)), (1, .int v1), (2, .int v2)] [] := by
  unfold f_X10_areHad_L44 at he
  refine z_iload_n S dX10_areHad_44 rfl 2 rfl ?_
  refine z_aload_n S dX10_areHad_45 rfl 0 rfl ?_
  refine z_getF (j := 201) S fo_RX10_7 1 rfl rfl ok_200 dX10_areHad_46 ?_
  refine z_iconst (v := 4) S dX10_areHad_49 (by decide) ?_
  refine z_iald S ok_201 rfl he dX10_areHad_50 (fun he => ?_)
  refine z_icmp_ge (tgt := 79) S he dX10_areHad_51 (by decide) (fun he => ?_) (fun he => ?_)
  · refine z_lv (ks := []) rfl ?_
    exact hx _ (Option.some.inj he).symm
  · refine z_iload_n S dX10_areHad_54 rfl 1 rfl ?_
    refine z_iload_n S dX10_areHad_55 rfl 2 rfl ?_
    refine z_cSI (As := [.int v1, .int v2]) S cs_RX10_117 (K_X10_isOf  rfl) ⟨rfl, rfl⟩ ⟨Nat.le_of_ble_eq_true rfl, Nat.le_of_ble_eq_true rfl⟩ ⟨Nat.le_refl _, Nat.le_refl _⟩ rfl rfl (Nat.le_of_ble_eq_true rfl) dX10_areHad_56 ?_
    refine z_ifb_eq (tgt := 73) S he dX10_areHad_59 (by decide) (fun he => ?_) (fun he => ?_)
    · refine z_iinc (v := (v2 + 1)) (lv' := [(0, .ref (X.2.2 200)), (1, .int v1), (2, .int (v2 + 1))]) S [1, 2, 0] 2 dX10_areHad_73 rfl (by rfl) (by decide) rfl ?_
      refine z_goto (tgt := 44) S dX10_areHad_76 (by decide) ?_
      refine z_lv (ks := [0, 1, 2]) rfl ?_
      exact hc _ (Option.some.inj he).symm
    · refine z_aload_n S dX10_areHad_62 rfl 0 rfl ?_
      refine z_iload_n S dX10_areHad_63 rfl 2 rfl ?_
      refine z_iconst (v := 0) S dX10_areHad_64 (by decide) ?_
      obtain ⟨⟨r5, M6⟩, h9, he⟩ := bnd he
      dsimp only at he
      refine z_cVI (As := [.int v2, .int 0]) S cv_RX10_315 (K_X10_finds  h9) ok_200 (by decide) (q := (RX10, TX10, 28)) rfl rfl ⟨rfl, rfl⟩ ⟨Nat.le_of_ble_eq_true rfl, Nat.le_of_ble_eq_true rfl⟩ ⟨Nat.le_refl _, Nat.le_refl _⟩ rfl rfl (Nat.le_of_ble_eq_true rfl) dX10_areHad_65 ?_
      refine z_ifb_ne (tgt := 73) S he dX10_areHad_68 (by decide) (fun he => ?_) (fun he => ?_)
      · refine z_iinc (v := (v2 + 1)) (lv' := [(0, .ref (X.2.2 200)), (1, .int v1), (2, .int (v2 + 1))]) S [1, 2, 0] 2 dX10_areHad_73 rfl (by rfl) (by decide) rfl ?_
        refine z_goto (tgt := 44) S dX10_areHad_76 (by decide) ?_
        refine z_lv (ks := [0, 1, 2]) rfl ?_
        exact hc _ (Option.some.inj he).symm
      · refine z_iconst (v := 0) S dX10_areHad_71 (by decide) ?_
        exact z_zret0 S (Prod.mk.inj (hr _ (Option.some.inj he).symm)) dX10_areHad_72
set_option maxRecDepth 100000 in
set_option maxHeartbeats 4000000 in
theorem K_X10_areHad {X : Cx} {l : Launch} {M : Mm} {a1 : Int32} {r : Bool} {N : Mm}  (he : f_X10_areHad M a1 = some (r, N)) : KI X 1 l yX10_areHad (wz yX10_areHad cX10_areHad 3 (some .boolean)) rm_X10_areHad [.ref (X.2.2 200), .int a1] M (bI r) N := by
  intro sz
  refine K_of (Qc := (fun sz => QI X 1 (bI r) N sz)) (own := RX10) (lv0 := [(0, .ref (X.2.2 200)), (1, .int a1)]) (by decide +kernel) rfl (Nat.le_of_ble_eq_true rfl) rfl (fun p e s m args below meth c S => ?_) sz
  · unfold f_X10_areHad at he
    refine z_iconst (v := 0) S dX10_areHad_0 (by decide) ?_
    refine z_istore_n (lv' := [(0, .ref (X.2.2 200)), (1, .int a1), (2, .int 0)]) S [1, 2, 0] dX10_areHad_1 rfl (by decide) rfl ?_
    obtain ⟨e_2, hl, he⟩ := bnd he
    have hX : Z X 1 p l e rm_X10_areHad s m args below meth c 0 0 (MQ below (QI X 1 (bI r) N s.heap.size) args s 0 0 (AA X 1 s.heap.size)) 3 e_2 21 [(0, .ref (X.2.2 200)), (1, .int a1)] [] := by
      refine z_iconst (v := 0) S dX10_areHad_21 (by decide) ?_
      refine z_istore_n (lv' := [(0, .ref (X.2.2 200)), (1, .int a1), (2, .int 0)]) S [1, 2, 0] dX10_areHad_22 rfl (by decide) rfl ?_
      obtain ⟨e_4, hl, he⟩ := bnd he
      have hX : Z X 1 p l e rm_X10_areHad s m args below meth c 0 0 (MQ below (QI X 1 (bI r) N s.heap.size) args s 0 0 (AA X 1 s.heap.size)) 3 e_4 42 [(0, .ref (X.2.2 200)), (1, .int a1)] [] := by
        refine z_iconst (v := 0) S dX10_areHad_42 (by decide) ?_
        refine z_istore_n (lv' := [(0, .ref (X.2.2 200)), (1, .int a1), (2, .int 0)]) S [1, 2, 0] dX10_areHad_43 rfl (by decide) rfl ?_
        obtain ⟨r9, hl, hr1, hr2⟩ := bndS he
        have hX : ∀ e_7, r9 = .inr e_7 → Z X 1 p l e rm_X10_areHad s m args below meth c 0 0 (MQ below (QI X 1 (bI r) N s.heap.size) args s 0 0 (AA X 1 s.heap.size)) 3 e_7 79 [] [] := by
          intro e_7 hre
          have he := hr2 e_7 hre
          refine z_iconst (v := 1) S dX10_areHad_79 (by decide) ?_
          exact z_zret1 S (Prod.mk.inj (Option.some.inj he)) dX10_areHad_80
        exact loopZ (Zh := (fun a_7 => Z X 1 p l e rm_X10_areHad s m args below meth c 0 0 (MQ below (QI X 1 (bI r) N s.heap.size) args s 0 0 (AA X 1 s.heap.size)) 3 a_7.1 44 [(0, .ref (X.2.2 200)), (1, .int a1), (2, .int a_7.2)] [])) (fun a_7 x hb hc hr9 => p_X10_areHad_L44 S  hb hc (fun b hxe => hX b (hr9 _ hxe).symm) (fun v hxv => Option.some.inj (hr1 v (hr9 _ hxv).symm))) FU _ hl
      exact loopZ (Zh := (fun a_4 => Z X 1 p l e rm_X10_areHad s m args below meth c 0 0 (MQ below (QI X 1 (bI r) N s.heap.size) args s 0 0 (AA X 1 s.heap.size)) 3 a_4.1 23 [(0, .ref (X.2.2 200)), (1, .int a1), (2, .int a_4.2)] [])) (fun a_4 x hb hc hr => p_X10_areHad_L23 S  hb hc (fun b hxe => by rw [hr b hxe]; exact hX)) FU _ hl
    exact loopZ (Zh := (fun a_2 => Z X 1 p l e rm_X10_areHad s m args below meth c 0 0 (MQ below (QI X 1 (bI r) N s.heap.size) args s 0 0 (AA X 1 s.heap.size)) 3 a_2.1 2 [(0, .ref (X.2.2 200)), (1, .int a1), (2, .int a_2.2)] [])) (fun a_2 x hb hc hr => p_X10_areHad_L2 S  hb hc (fun b hxe => by rw [hr b hxe]; exact hX)) FU _ hl
set_option maxRecDepth 100000 in
set_option maxHeartbeats 4000000 in
theorem p_X10_back_L16 {X : Cx} {p : Program} {l : Launch} {e : Env} {s : State} {m : MethodId} {args : Array Value} {below : List Frame} {meth : Method} {c : Code} (S : SB X 1 p s m args meth c cX10_back 2 (some .boolean) RX10) {M : Mm} {N : Mm} {r : Bool} {v1 : Int32} {x : (Mm × Int32) ⊕ Mm}  (he : f_X10_back_L16 M v1 = some x) (hc : ∀ b, x = .inl b → Z X 1 p l e rm_X10_back s m args below meth c 0 0 (MQ below (QI X 1 (bI r) N s.heap.size) args s 0 0 (AA X 1 s.heap.size)) 2 b.1 16 [(0, .ref (X.2.2 200)), (1, .int b.2)] []) (hx : ∀ b, x = .inr b → Z X 1 p l e rm_X10_back s m args below meth c 0 0 (MQ below (QI X 1 (bI r) N s.heap.size) args s 0 0 (AA X 1 s.heap.size)) 2 b 41 [(0, .ref (X.2.2 200))] []) : Z X 1 p l e rm_X10_back s m args below meth c 0 0 (MQ below (QI X 1 (bI r) N s.heap.size) args s 0 0 (AA X 1 s.heap.size)) 2 M 16 [(0, .ref (X.2.2 200)), (1, .int v1)] [] := by
  unfold f_X10_back_L16 at he
  refine z_iload_n S dX10_back_16 rfl 1 rfl ?_
  refine z_sipush (v := 807) S dX10_back_17 (by decide) ?_
  refine z_icmp_ge (tgt := 41) S he dX10_back_20 (by decide) (fun he => ?_) (fun he => ?_)
  · refine z_lv (ks := [0]) rfl ?_
    exact hx _ (Option.some.inj he).symm
  · refine z_aload_n S dX10_back_23 rfl 0 rfl ?_
    refine z_getF (j := 201) S fo_RX10_7 1 rfl rfl ok_200 dX10_back_24 ?_
    refine z_iload_n S dX10_back_27 rfl 1 rfl ?_
    refine z_aload_n S dX10_back_28 rfl 0 rfl ?_
    refine z_getF (j := 202) S fo_RX10_13 2 rfl rfl ok_200 dX10_back_29 ?_
    refine z_iload_n S dX10_back_32 rfl 1 rfl ?_
    refine z_iald S ok_202 rfl he dX10_back_33 (fun he => ?_)
    refine z_iastb S ok_201 rfl he dX10_back_34 (fun M2 he => ?_)
    refine z_iinc (v := (v1 + 1)) (lv' := [(0, .ref (X.2.2 200)), (1, .int (v1 + 1))]) S [1, 0] 1 dX10_back_35 rfl (by rfl) (by decide) rfl ?_
    refine z_goto (tgt := 16) S dX10_back_38 (by decide) ?_
    refine z_lv (ks := [0, 1]) rfl ?_
    exact hc _ (Option.some.inj he).symm
set_option maxRecDepth 100000 in
set_option maxHeartbeats 4000000 in
theorem K_X10_back {X : Cx} {l : Launch} {M : Mm} {r : Bool} {N : Mm}  (he : f_X10_back M  = some (r, N)) : KI X 1 l yX10_back (wz yX10_back cX10_back 2 (some .boolean)) rm_X10_back [.ref (X.2.2 200)] M (bI r) N := by
  intro sz
  refine K_of (Qc := (fun sz => QI X 1 (bI r) N sz)) (own := RX10) (lv0 := [(0, .ref (X.2.2 200))]) (by decide +kernel) rfl (Nat.le_of_ble_eq_true rfl) rfl (fun p e s m args below meth c S => ?_) sz
  · unfold f_X10_back at he
    refine z_aload_n S dX10_back_0 rfl 0 rfl ?_
    refine z_iconst (v := 0) S dX10_back_1 (by decide) ?_
    refine z_putIb S fo_RX10_63p rfl ok_200 rfl rfl he dX10_back_2 (fun M1 he => ?_)
    refine z_aload_n S dX10_back_5 rfl 0 rfl ?_
    refine z_getI S fo_RX10_351 rfl ok_200 dX10_back_6 ?_
    refine z_if_ne (tgt := 14) S he dX10_back_9 (by decide) (fun he => ?_) (fun he => ?_)
    · refine z_iconst (v := 0) S dX10_back_14 (by decide) ?_
      refine z_istore_n (lv' := [(0, .ref (X.2.2 200)), (1, .int 0)]) S [1, 0] dX10_back_15 rfl (by decide) rfl ?_
      obtain ⟨e_3, hl, he⟩ := bnd he
      have hX : Z X 1 p l e rm_X10_back s m args below meth c 0 0 (MQ below (QI X 1 (bI r) N s.heap.size) args s 0 0 (AA X 1 s.heap.size)) 2 e_3 41 [(0, .ref (X.2.2 200))] [] := by
        refine z_aload_n S dX10_back_41 rfl 0 rfl ?_
        refine z_iconst (v := 0) S dX10_back_42 (by decide) ?_
        refine z_putIb S fo_RX10_184p rfl ok_200 rfl rfl he dX10_back_43 (fun M4 he => ?_)
        refine z_iconst (v := 1) S dX10_back_46 (by decide) ?_
        exact z_zret1 S (Prod.mk.inj (Option.some.inj he)) dX10_back_47
      exact loopZ (Zh := (fun a_3 => Z X 1 p l e rm_X10_back s m args below meth c 0 0 (MQ below (QI X 1 (bI r) N s.heap.size) args s 0 0 (AA X 1 s.heap.size)) 2 a_3.1 16 [(0, .ref (X.2.2 200)), (1, .int a_3.2)] [])) (fun a_3 x hb hc hr => p_X10_back_L16 S  hb hc (fun b hxe => by rw [hr b hxe]; exact hX)) FU _ hl
    · refine z_iconst (v := 0) S dX10_back_12 (by decide) ?_
      exact z_zret0 S (Prod.mk.inj (Option.some.inj he)) dX10_back_13
set_option maxRecDepth 100000 in
set_option maxHeartbeats 4000000 in
theorem K_X10_begins {X : Cx} {l : Launch} {M : Mm} {N : Mm}  (he : f_X10_begins M  = some N) : KV X 1 l yX10_begins (wz yX10_begins cX10_begins 1 none) rm_X10_begins [.ref (X.2.2 200)] M N := by
  intro sz
  refine K_of (Qc := (fun sz => QV X 1 N sz)) (own := RX10) (lv0 := [(0, .ref (X.2.2 200))]) (by decide +kernel) rfl (Nat.le_of_ble_eq_true rfl) rfl (fun p e s m args below meth c S => ?_) sz
  · unfold f_X10_begins at he
    refine z_aload_n S dX10_begins_0 rfl 0 rfl ?_
    refine z_iconst (v := (-1)) S dX10_begins_1 (by decide) ?_
    refine z_putIb S fo_RX10_25p rfl ok_200 rfl rfl he dX10_begins_2 (fun M1 he => ?_)
    refine z_aload_n S dX10_begins_5 rfl 0 rfl ?_
    refine z_iconst (v := (-1)) S dX10_begins_6 (by decide) ?_
    refine z_putIb S fo_RX10_77p rfl ok_200 rfl rfl he dX10_begins_7 (fun M2 he => ?_)
    refine z_aload_n S dX10_begins_10 rfl 0 rfl ?_
    refine z_aload_n S dX10_begins_11 rfl 0 rfl ?_
    refine z_getI S fo_RX10_74 rfl ok_200 dX10_begins_12 ?_
    refine z_putIb S fo_RX10_83p rfl ok_200 rfl rfl he dX10_begins_15 (fun M3 he => ?_)
    refine z_aload_n S dX10_begins_18 rfl 0 rfl ?_
    refine z_iconst (v := 0) S dX10_begins_19 (by decide) ?_
    refine z_putIb S fo_RX10_74p rfl ok_200 rfl rfl he dX10_begins_20 (fun M4 he => ?_)
    refine z_aload_n S dX10_begins_23 rfl 0 rfl ?_
    refine z_iconst (v := 0) S dX10_begins_24 (by decide) ?_
    refine z_putIb S fo_RX10_80p rfl ok_200 rfl rfl he dX10_begins_25 (fun M5 he => ?_)
    refine z_aload_n S dX10_begins_28 rfl 0 rfl ?_
    refine z_iconst (v := 0) S dX10_begins_29 (by decide) ?_
    refine z_putIb S fo_RX10_158p rfl ok_200 rfl rfl he dX10_begins_30 (fun M6 he => ?_)
    exact z_vret S (Option.some.inj he) dX10_begins_33
set_option maxRecDepth 100000 in
set_option maxHeartbeats 4000000 in
theorem p_X10_bits_L4 {X : Cx} {p : Program} {l : Launch} {e : Env} {s : State} {m : MethodId} {args : Array Value} {below : List Frame} {meth : Method} {c : Code} (S : SB X 1 p s m args meth c cX10_bits 3 (some .int) RX10) {M : Mm} {r : Int32} {v0 : Int32} {v1 : Int32} {v2 : Int32} {x : (Int32 × Int32) ⊕ Int32}  (he : f_X10_bits_L4 M v0 v1 v2 = some x) (hc : ∀ b, x = .inl b → Z X 1 p l e rm_X10_bits s m args below meth c 0 0 (MQ below (QI X 1 r M s.heap.size) args s 0 0 (AA X 1 s.heap.size)) 3 M 4 [(0, .int v0), (1, .int b.1), (2, .int b.2)] []) (hx : ∀ b, x = .inr b → Z X 1 p l e rm_X10_bits s m args below meth c 0 0 (MQ below (QI X 1 r M s.heap.size) args s 0 0 (AA X 1 s.heap.size)) 3 M 24 [(1, .int b)] []) : Z X 1 p l e rm_X10_bits s m args below meth c 0 0 (MQ below (QI X 1 r M s.heap.size) args s 0 0 (AA X 1 s.heap.size)) 3 M 4 [(0, .int v0), (1, .int v1), (2, .int v2)] [] := by
  unfold f_X10_bits_L4 at he
  refine z_iload_n S dX10_bits_4 rfl 2 rfl ?_
  refine z_bipush (v := 31) S dX10_bits_5 (by decide) ?_
  refine z_icmp_ge (tgt := 24) S he dX10_bits_7 (by decide) (fun he => ?_) (fun he => ?_)
  · refine z_lv (ks := [1]) rfl ?_
    exact hx _ (Option.some.inj he).symm
  · refine z_iload_n S dX10_bits_10 rfl 1 rfl ?_
    refine z_iload_n S dX10_bits_11 rfl 0 rfl ?_
    refine z_iload_n S dX10_bits_12 rfl 2 rfl ?_
    refine z_ishr S dX10_bits_13 ?_
    refine z_iconst (v := 1) S dX10_bits_14 (by decide) ?_
    refine z_iand S dX10_bits_15 ?_
    refine z_iadd S dX10_bits_16 ?_
    obtain ⟨x1, ex1, he⟩ := bnd he
    rw [Option.some.inj ex1]
    refine z_istore_n (lv' := [(0, .int v0), (1, .int x1), (2, .int v2)]) S [1, 0, 2] dX10_bits_17 rfl (by decide) rfl ?_
    refine z_iinc (v := (v2 + 1)) (lv' := [(0, .int v0), (1, .int x1), (2, .int (v2 + 1))]) S [1, 2, 0] 2 dX10_bits_18 rfl (by rfl) (by decide) rfl ?_
    refine z_goto (tgt := 4) S dX10_bits_21 (by decide) ?_
    refine z_lv (ks := [0, 1, 2]) rfl ?_
    exact hc _ (Option.some.inj he).symm
set_option maxRecDepth 100000 in
set_option maxHeartbeats 4000000 in
theorem K_X10_bits {X : Cx} {l : Launch} {M : Mm} {a0 : Int32} {r : Int32}  (he : f_X10_bits M a0 = some r) : KI X 1 l yX10_bits (wz yX10_bits cX10_bits 3 (some .int)) rm_X10_bits [.int a0] M r M := by
  intro sz
  refine K_of (Qc := (fun sz => QI X 1 r M sz)) (own := RX10) (lv0 := [(0, .int a0)]) (by decide +kernel) rfl (Nat.le_of_ble_eq_true rfl) rfl (fun p e s m args below meth c S => ?_) sz
  · unfold f_X10_bits at he
    refine z_iconst (v := 0) S dX10_bits_0 (by decide) ?_
    refine z_istore_n (lv' := [(0, .int a0), (1, .int 0)]) S [1, 0] dX10_bits_1 rfl (by decide) rfl ?_
    refine z_iconst (v := 0) S dX10_bits_2 (by decide) ?_
    refine z_istore_n (lv' := [(0, .int a0), (1, .int 0), (2, .int 0)]) S [1, 2, 0] dX10_bits_3 rfl (by decide) rfl ?_
    obtain ⟨e_2, hl, he⟩ := bnd he
    have hX : Z X 1 p l e rm_X10_bits s m args below meth c 0 0 (MQ below (QI X 1 r M s.heap.size) args s 0 0 (AA X 1 s.heap.size)) 3 M 24 [(1, .int e_2)] [] := by
      refine z_iload_n S dX10_bits_24 rfl 0 rfl ?_
      exact z_iret S (⟨Option.some.inj he, rfl⟩) dX10_bits_25
    exact loopZ (Zh := (fun a_2 => Z X 1 p l e rm_X10_bits s m args below meth c 0 0 (MQ below (QI X 1 r M s.heap.size) args s 0 0 (AA X 1 s.heap.size)) 3 M 4 [(0, .int a0), (1, .int a_2.1), (2, .int a_2.2)] [])) (fun a_2 x hb hc hr => p_X10_bits_L4 S  hb hc (fun b hxe => by rw [hr b hxe]; exact hX)) FU _ hl
set_option maxRecDepth 100000 in
set_option maxHeartbeats 4000000 in
theorem p_X10_ringing_L4 {X : Cx} {p : Program} {l : Launch} {e : Env} {s : State} {m : MethodId} {args : Array Value} {below : List Frame} {meth : Method} {c : Code} (S : SB X 1 p s m args meth c cX10_ringing 4 (some .int) RX10) {M : Mm} {r : Int32} {v1 : Int32} {v2 : Int32} {v3 : Int32} {x : (Int32 × Int32) ⊕ Int32}  (he : f_X10_ringing_L4 M v1 v2 v3 = some x) (hc : ∀ b, x = .inl b → Z X 1 p l e rm_X10_ringing s m args below meth c 0 0 (MQ below (QI X 1 r M s.heap.size) args s 0 0 (AA X 1 s.heap.size)) 4 M 4 [(0, .ref (X.2.2 200)), (1, .int v1), (2, .int b.1), (3, .int b.2)] []) (hx : ∀ b, x = .inr b → Z X 1 p l e rm_X10_ringing s m args below meth c 0 0 (MQ below (QI X 1 r M s.heap.size) args s 0 0 (AA X 1 s.heap.size)) 4 M 39 [(2, .int b)] []) : Z X 1 p l e rm_X10_ringing s m args below meth c 0 0 (MQ below (QI X 1 r M s.heap.size) args s 0 0 (AA X 1 s.heap.size)) 4 M 4 [(0, .ref (X.2.2 200)), (1, .int v1), (2, .int v2), (3, .int v3)] [] := by
  unfold f_X10_ringing_L4 at he
  refine z_iload_n S dX10_ringing_4 rfl 3 rfl ?_
  refine z_aload_n S dX10_ringing_5 rfl 0 rfl ?_
  refine z_getF (j := 201) S fo_RX10_7 1 rfl rfl ok_200 dX10_ringing_6 ?_
  refine z_iconst (v := 3) S dX10_ringing_9 (by decide) ?_
  refine z_iald S ok_201 rfl he dX10_ringing_10 (fun he => ?_)
  refine z_icmp_ge (tgt := 39) S he dX10_ringing_11 (by decide) (fun he => ?_) (fun he => ?_)
  · refine z_lv (ks := [2]) rfl ?_
    exact hx _ (Option.some.inj he).symm
  · refine z_iload_n S dX10_ringing_14 rfl 2 rfl ?_
    refine z_aload_n S dX10_ringing_15 rfl 0 rfl ?_
    refine z_iload_n S dX10_ringing_16 rfl 3 rfl ?_
    refine z_iload_n S dX10_ringing_17 rfl 1 rfl ?_
    obtain ⟨r1, h9, he⟩ := bnd he
    refine z_cVI (As := [.int v3, .int v1]) S cv_RX10_259 (K_X10_canHave  h9) ok_200 (by decide) (q := (RX10, TX10, 28)) rfl rfl ⟨rfl, rfl⟩ ⟨Nat.le_of_ble_eq_true rfl, Nat.le_of_ble_eq_true rfl⟩ ⟨Nat.le_refl _, Nat.le_refl _⟩ rfl rfl (Nat.le_of_ble_eq_true rfl) dX10_ringing_18 ?_
    refine z_ifb_eq (tgt := 30) S he dX10_ringing_21 (by decide) (fun he => ?_) (fun he => ?_)
    · refine z_iconst (v := 0) S dX10_ringing_30 (by decide) ?_
      refine z_ior S dX10_ringing_31 ?_
      refine z_istore_n (lv' := [(0, .ref (X.2.2 200)), (1, .int v1), (2, .int (v2 ||| 0)), (3, .int v3)]) S [1, 2, 0, 3] dX10_ringing_32 rfl (by decide) rfl ?_
      refine z_iinc (v := (v3 + 1)) (lv' := [(0, .ref (X.2.2 200)), (1, .int v1), (2, .int (v2 ||| 0)), (3, .int (v3 + 1))]) S [1, 2, 3, 0] 3 dX10_ringing_33 rfl (by rfl) (by decide) rfl ?_
      refine z_goto (tgt := 4) S dX10_ringing_36 (by decide) ?_
      refine z_lv (ks := [0, 1, 2, 3]) rfl ?_
      exact hc _ (Option.some.inj he).symm
    · refine z_iconst (v := 1) S dX10_ringing_24 (by decide) ?_
      refine z_iload_n S dX10_ringing_25 rfl 3 rfl ?_
      refine z_ishl S dX10_ringing_26 ?_
      refine z_goto (tgt := 31) S dX10_ringing_27 (by decide) ?_
      refine z_ior S dX10_ringing_31 ?_
      obtain ⟨x2, ex2, he⟩ := bnd he
      rw [Option.some.inj ex2]
      refine z_istore_n (lv' := [(0, .ref (X.2.2 200)), (1, .int v1), (2, .int x2), (3, .int v3)]) S [1, 2, 0, 3] dX10_ringing_32 rfl (by decide) rfl ?_
      refine z_iinc (v := (v3 + 1)) (lv' := [(0, .ref (X.2.2 200)), (1, .int v1), (2, .int x2), (3, .int (v3 + 1))]) S [1, 2, 3, 0] 3 dX10_ringing_33 rfl (by rfl) (by decide) rfl ?_
      refine z_goto (tgt := 4) S dX10_ringing_36 (by decide) ?_
      refine z_lv (ks := [0, 1, 2, 3]) rfl ?_
      exact hc _ (Option.some.inj he).symm
set_option maxRecDepth 100000 in
set_option maxHeartbeats 4000000 in
theorem K_X10_ringing {X : Cx} {l : Launch} {M : Mm} {a1 : Int32} {r : Int32}  (he : f_X10_ringing M a1 = some r) : KI X 1 l yX10_ringing (wz yX10_ringing cX10_ringing 4 (some .int)) rm_X10_ringing [.ref (X.2.2 200), .int a1] M r M := by
  intro sz
  refine K_of (Qc := (fun sz => QI X 1 r M sz)) (own := RX10) (lv0 := [(0, .ref (X.2.2 200)), (1, .int a1)]) (by decide +kernel) rfl (Nat.le_of_ble_eq_true rfl) rfl (fun p e s m args below meth c S => ?_) sz
  · unfold f_X10_ringing at he
    refine z_iconst (v := 0) S dX10_ringing_0 (by decide) ?_
    refine z_istore_n (lv' := [(0, .ref (X.2.2 200)), (1, .int a1), (2, .int 0)]) S [1, 2, 0] dX10_ringing_1 rfl (by decide) rfl ?_
    refine z_iconst (v := 0) S dX10_ringing_2 (by decide) ?_
    refine z_istore_n (lv' := [(0, .ref (X.2.2 200)), (1, .int a1), (2, .int 0), (3, .int 0)]) S [1, 2, 3, 0] dX10_ringing_3 rfl (by decide) rfl ?_
    obtain ⟨e_3, hl, he⟩ := bnd he
    have hX : Z X 1 p l e rm_X10_ringing s m args below meth c 0 0 (MQ below (QI X 1 r M s.heap.size) args s 0 0 (AA X 1 s.heap.size)) 4 M 39 [(2, .int e_3)] [] := by
      refine z_iload_n S dX10_ringing_39 rfl 0 rfl ?_
      exact z_iret S (⟨Option.some.inj he, rfl⟩) dX10_ringing_40
    exact loopZ (Zh := (fun a_3 => Z X 1 p l e rm_X10_ringing s m args below meth c 0 0 (MQ below (QI X 1 r M s.heap.size) args s 0 0 (AA X 1 s.heap.size)) 4 M 4 [(0, .ref (X.2.2 200)), (1, .int a1), (2, .int a_3.1), (3, .int a_3.2)] [])) (fun a_3 x hb hc hr => p_X10_ringing_L4 S  hb hc (fun b hxe => by rw [hr b hxe]; exact hX)) FU _ hl
set_option maxRecDepth 100000 in
set_option maxHeartbeats 4000000 in
theorem p_X10_hadNow_L4 {X : Cx} {p : Program} {l : Launch} {e : Env} {s : State} {m : MethodId} {args : Array Value} {below : List Frame} {meth : Method} {c : Code} (S : SB X 1 p s m args meth c cX10_hadNow 3 (some .int) RX10) {M : Mm} {r : Int32} {v1 : Int32} {v2 : Int32} {x : (Int32 × Int32) ⊕ Int32}  (he : f_X10_hadNow_L4 M v1 v2 = some x) (hc : ∀ b, x = .inl b → Z X 1 p l e rm_X10_hadNow s m args below meth c 0 0 (MQ below (QI X 1 r M s.heap.size) args s 0 0 (AA X 1 s.heap.size)) 3 M 4 [(0, .ref (X.2.2 200)), (1, .int b.1), (2, .int b.2)] []) (hx : ∀ b, x = .inr b → Z X 1 p l e rm_X10_hadNow s m args below meth c 0 0 (MQ below (QI X 1 r M s.heap.size) args s 0 0 (AA X 1 s.heap.size)) 3 M 40 [(1, .int b)] []) : Z X 1 p l e rm_X10_hadNow s m args below meth c 0 0 (MQ below (QI X 1 r M s.heap.size) args s 0 0 (AA X 1 s.heap.size)) 3 M 4 [(0, .ref (X.2.2 200)), (1, .int v1), (2, .int v2)] [] := by
  unfold f_X10_hadNow_L4 at he
  refine z_iload_n S dX10_hadNow_4 rfl 2 rfl ?_
  refine z_aload_n S dX10_hadNow_5 rfl 0 rfl ?_
  refine z_getF (j := 201) S fo_RX10_7 1 rfl rfl ok_200 dX10_hadNow_6 ?_
  refine z_iconst (v := 4) S dX10_hadNow_9 (by decide) ?_
  refine z_iald S ok_201 rfl he dX10_hadNow_10 (fun he => ?_)
  refine z_icmp_ge (tgt := 40) S he dX10_hadNow_11 (by decide) (fun he => ?_) (fun he => ?_)
  · refine z_lv (ks := [1]) rfl ?_
    exact hx _ (Option.some.inj he).symm
  · refine z_iload_n S dX10_hadNow_14 rfl 1 rfl ?_
    refine z_aload_n S dX10_hadNow_15 rfl 0 rfl ?_
    refine z_getF (j := 208) S fo_RX10_35 8 rfl rfl ok_200 dX10_hadNow_16 ?_
    refine z_iload_n S dX10_hadNow_19 rfl 2 rfl ?_
    refine z_iald S ok_208 rfl he dX10_hadNow_20 (fun he => ?_)
    refine z_iconst (v := (-1)) S dX10_hadNow_21 (by decide) ?_
    refine z_icmp_eq (tgt := 31) S he dX10_hadNow_22 (by decide) (fun he => ?_) (fun he => ?_)
    · refine z_iconst (v := 0) S dX10_hadNow_31 (by decide) ?_
      refine z_ior S dX10_hadNow_32 ?_
      refine z_istore_n (lv' := [(0, .ref (X.2.2 200)), (1, .int (v1 ||| 0)), (2, .int v2)]) S [1, 0, 2] dX10_hadNow_33 rfl (by decide) rfl ?_
      refine z_iinc (v := (v2 + 1)) (lv' := [(0, .ref (X.2.2 200)), (1, .int (v1 ||| 0)), (2, .int (v2 + 1))]) S [1, 2, 0] 2 dX10_hadNow_34 rfl (by rfl) (by decide) rfl ?_
      refine z_goto (tgt := 4) S dX10_hadNow_37 (by decide) ?_
      refine z_lv (ks := [0, 1, 2]) rfl ?_
      exact hc _ (Option.some.inj he).symm
    · refine z_iconst (v := 1) S dX10_hadNow_25 (by decide) ?_
      refine z_iload_n S dX10_hadNow_26 rfl 2 rfl ?_
      refine z_ishl S dX10_hadNow_27 ?_
      refine z_goto (tgt := 32) S dX10_hadNow_28 (by decide) ?_
      refine z_ior S dX10_hadNow_32 ?_
      obtain ⟨x1, ex1, he⟩ := bnd he
      rw [Option.some.inj ex1]
      refine z_istore_n (lv' := [(0, .ref (X.2.2 200)), (1, .int x1), (2, .int v2)]) S [1, 0, 2] dX10_hadNow_33 rfl (by decide) rfl ?_
      refine z_iinc (v := (v2 + 1)) (lv' := [(0, .ref (X.2.2 200)), (1, .int x1), (2, .int (v2 + 1))]) S [1, 2, 0] 2 dX10_hadNow_34 rfl (by rfl) (by decide) rfl ?_
      refine z_goto (tgt := 4) S dX10_hadNow_37 (by decide) ?_
      refine z_lv (ks := [0, 1, 2]) rfl ?_
      exact hc _ (Option.some.inj he).symm
set_option maxRecDepth 100000 in
set_option maxHeartbeats 4000000 in
theorem K_X10_hadNow {X : Cx} {l : Launch} {M : Mm} {r : Int32}  (he : f_X10_hadNow M  = some r) : KI X 1 l yX10_hadNow (wz yX10_hadNow cX10_hadNow 3 (some .int)) rm_X10_hadNow [.ref (X.2.2 200)] M r M := by
  intro sz
  refine K_of (Qc := (fun sz => QI X 1 r M sz)) (own := RX10) (lv0 := [(0, .ref (X.2.2 200))]) (by decide +kernel) rfl (Nat.le_of_ble_eq_true rfl) rfl (fun p e s m args below meth c S => ?_) sz
  · unfold f_X10_hadNow at he
    refine z_iconst (v := 0) S dX10_hadNow_0 (by decide) ?_
    refine z_istore_n (lv' := [(0, .ref (X.2.2 200)), (1, .int 0)]) S [1, 0] dX10_hadNow_1 rfl (by decide) rfl ?_
    refine z_iconst (v := 0) S dX10_hadNow_2 (by decide) ?_
    refine z_istore_n (lv' := [(0, .ref (X.2.2 200)), (1, .int 0), (2, .int 0)]) S [1, 2, 0] dX10_hadNow_3 rfl (by decide) rfl ?_
    obtain ⟨e_2, hl, he⟩ := bnd he
    have hX : Z X 1 p l e rm_X10_hadNow s m args below meth c 0 0 (MQ below (QI X 1 r M s.heap.size) args s 0 0 (AA X 1 s.heap.size)) 3 M 40 [(1, .int e_2)] [] := by
      refine z_iload_n S dX10_hadNow_40 rfl 0 rfl ?_
      exact z_iret S (⟨Option.some.inj he, rfl⟩) dX10_hadNow_41
    exact loopZ (Zh := (fun a_2 => Z X 1 p l e rm_X10_hadNow s m args below meth c 0 0 (MQ below (QI X 1 r M s.heap.size) args s 0 0 (AA X 1 s.heap.size)) 3 M 4 [(0, .ref (X.2.2 200)), (1, .int a_2.1), (2, .int a_2.2)] [])) (fun a_2 x hb hc hr => p_X10_hadNow_L4 S  hb hc (fun b hxe => by rw [hr b hxe]; exact hX)) FU _ hl
set_option maxRecDepth 100000 in
set_option maxHeartbeats 4000000 in
theorem K_X10_swap {X : Cx} {l : Launch} {M : Mm} {a1 : Int32} {a2 : Int32} {N : Mm}  (he : f_X10_swap M a1 a2 = some N) : KV X 1 l yX10_swap (wz yX10_swap cX10_swap 4 none) rm_X10_swap [.ref (X.2.2 200), .int a1, .int a2] M N := by
  intro sz
  refine K_of (Qc := (fun sz => QV X 1 N sz)) (own := RX10) (lv0 := [(0, .ref (X.2.2 200)), (1, .int a1), (2, .int a2)]) (by decide +kernel) rfl (Nat.le_of_ble_eq_true rfl) rfl (fun p e s m args below meth c S => ?_) sz
  · unfold f_X10_swap at he
    refine z_aload_n S dX10_swap_0 rfl 0 rfl ?_
    refine z_iload_n S dX10_swap_1 rfl 1 rfl ?_
    refine z_iconst (v := 0) S dX10_swap_2 (by decide) ?_
    obtain ⟨r1, h9, he⟩ := bnd he
    refine z_cVI (As := [.int a1, .int 0]) S cv_RX10_70 (K_X10_of  h9) ok_200 (by decide) (q := (RX10, TX10, 28)) rfl rfl ⟨rfl, rfl⟩ ⟨Nat.le_of_ble_eq_true rfl, Nat.le_of_ble_eq_true rfl⟩ ⟨Nat.le_refl _, Nat.le_refl _⟩ rfl rfl (Nat.le_of_ble_eq_true rfl) dX10_swap_3 ?_
    refine z_istore_n (lv' := [(0, .ref (X.2.2 200)), (1, .int a1), (2, .int a2), (3, .int r1)]) S [1, 2, 3, 0] dX10_swap_6 rfl (by decide) rfl ?_
    refine z_aload_n S dX10_swap_7 rfl 0 rfl ?_
    refine z_getF (j := 201) S fo_RX10_7 1 rfl rfl ok_200 dX10_swap_8 ?_
    refine z_bipush (v := 12) S dX10_swap_11 (by decide) ?_
    refine z_iconst (v := 5) S dX10_swap_13 (by decide) ?_
    refine z_iload_n S dX10_swap_14 rfl 1 rfl ?_
    refine z_imul S dX10_swap_15 ?_
    refine z_iadd S dX10_swap_16 ?_
    refine z_iconst (v := 0) S dX10_swap_17 (by decide) ?_
    refine z_iadd S dX10_swap_18 ?_
    refine z_aload_n S dX10_swap_19 rfl 0 rfl ?_
    refine z_iload_n S dX10_swap_20 rfl 2 rfl ?_
    refine z_iconst (v := 0) S dX10_swap_21 (by decide) ?_
    obtain ⟨r2, h9, he⟩ := bnd he
    refine z_cVI (As := [.int a2, .int 0]) S cv_RX10_70 (K_X10_of  h9) ok_200 (by decide) (q := (RX10, TX10, 28)) rfl rfl ⟨rfl, rfl⟩ ⟨Nat.le_of_ble_eq_true rfl, Nat.le_of_ble_eq_true rfl⟩ ⟨Nat.le_refl _, Nat.le_refl _⟩ rfl rfl (Nat.le_of_ble_eq_true rfl) dX10_swap_22 ?_
    refine z_iastb S ok_201 rfl he dX10_swap_25 (fun M3 he => ?_)
    refine z_aload_n S dX10_swap_26 rfl 0 rfl ?_
    refine z_getF (j := 201) S fo_RX10_7 1 rfl rfl ok_200 dX10_swap_27 ?_
    refine z_bipush (v := 12) S dX10_swap_30 (by decide) ?_
    refine z_iconst (v := 5) S dX10_swap_32 (by decide) ?_
    refine z_iload_n S dX10_swap_33 rfl 2 rfl ?_
    refine z_imul S dX10_swap_34 ?_
    refine z_iadd S dX10_swap_35 ?_
    refine z_iconst (v := 0) S dX10_swap_36 (by decide) ?_
    refine z_iadd S dX10_swap_37 ?_
    refine z_iload_n S dX10_swap_38 rfl 3 rfl ?_
    refine z_iastb S ok_201 rfl he dX10_swap_39 (fun M4 he => ?_)
    exact z_vret S (Option.some.inj he) dX10_swap_40
set_option maxRecDepth 100000 in
set_option maxHeartbeats 4000000 in
theorem p_X10_remembers_L52 {X : Cx} {p : Program} {l : Launch} {e : Env} {s : State} {m : MethodId} {args : Array Value} {below : List Frame} {meth : Method} {c : Code} (S : SB X 1 p s m args meth c cX10_remembers 2 none RX10) {M : Mm} {N : Mm} {v1 : Int32} {x : (Mm × Int32) ⊕ Mm}  (he : f_X10_remembers_L52 M v1 = some x) (hc : ∀ b, x = .inl b → Z X 1 p l e rm_X10_remembers s m args below meth c 0 0 (MQ below (QV X 1 N s.heap.size) args s 0 0 (AA X 1 s.heap.size)) 2 b.1 52 [(0, .ref (X.2.2 200)), (1, .int b.2)] []) (hx : ∀ b, x = .inr b → Z X 1 p l e rm_X10_remembers s m args below meth c 0 0 (MQ below (QV X 1 N s.heap.size) args s 0 0 (AA X 1 s.heap.size)) 2 b 86 [(0, .ref (X.2.2 200))] []) : Z X 1 p l e rm_X10_remembers s m args below meth c 0 0 (MQ below (QV X 1 N s.heap.size) args s 0 0 (AA X 1 s.heap.size)) 2 M 52 [(0, .ref (X.2.2 200)), (1, .int v1)] [] := by
  unfold f_X10_remembers_L52 at he
  refine z_iload_n S dX10_remembers_52 rfl 1 rfl ?_
  refine z_sipush (v := 407) S dX10_remembers_53 (by decide) ?_
  refine z_icmp_ge (tgt := 86) S he dX10_remembers_56 (by decide) (fun he => ?_) (fun he => ?_)
  · refine z_lv (ks := [0]) rfl ?_
    exact hx _ (Option.some.inj he).symm
  · refine z_aload_n S dX10_remembers_59 rfl 0 rfl ?_
    refine z_getF (j := 204) S fo_RX10_19 4 rfl rfl ok_200 dX10_remembers_60 ?_
    refine z_sipush (v := 407) S dX10_remembers_63 (by decide) ?_
    refine z_aload_n S dX10_remembers_66 rfl 0 rfl ?_
    refine z_getI S fo_RX10_184 rfl ok_200 dX10_remembers_67 ?_
    refine z_imul S dX10_remembers_70 ?_
    refine z_iload_n S dX10_remembers_71 rfl 1 rfl ?_
    refine z_iadd S dX10_remembers_72 ?_
    refine z_aload_n S dX10_remembers_73 rfl 0 rfl ?_
    refine z_getF (j := 201) S fo_RX10_7 1 rfl rfl ok_200 dX10_remembers_74 ?_
    refine z_iload_n S dX10_remembers_77 rfl 1 rfl ?_
    refine z_iald S ok_201 rfl he dX10_remembers_78 (fun he => ?_)
    refine z_iastb S ok_204 rfl he dX10_remembers_79 (fun M1 he => ?_)
    refine z_iinc (v := (v1 + 1)) (lv' := [(0, .ref (X.2.2 200)), (1, .int (v1 + 1))]) S [1, 0] 1 dX10_remembers_80 rfl (by rfl) (by decide) rfl ?_
    refine z_goto (tgt := 52) S dX10_remembers_83 (by decide) ?_
    refine z_lv (ks := [0, 1]) rfl ?_
    exact hc _ (Option.some.inj he).symm
set_option maxRecDepth 100000 in
set_option maxHeartbeats 4000000 in
theorem p_X10_remembers_J50 {X : Cx} {p : Program} {l : Launch} {e : Env} {s : State} {m : MethodId} {args : Array Value} {below : List Frame} {meth : Method} {c : Code} (S : SB X 1 p s m args meth c cX10_remembers 2 none RX10) {M : Mm} {N : Mm}  (he : f_X10_remembers_J50 M  = some N) : Z X 1 p l e rm_X10_remembers s m args below meth c 0 0 (MQ below (QV X 1 N s.heap.size) args s 0 0 (AA X 1 s.heap.size)) 2 M 50 [(0, .ref (X.2.2 200))] [] := by
  unfold f_X10_remembers_J50 at he
  refine z_iconst (v := 0) S dX10_remembers_50 (by decide) ?_
  refine z_istore_n (lv' := [(0, .ref (X.2.2 200)), (1, .int 0)]) S [1, 0] dX10_remembers_51 rfl (by decide) rfl ?_
  obtain ⟨e_2, hl, he⟩ := bnd he
  have hX : Z X 1 p l e rm_X10_remembers s m args below meth c 0 0 (MQ below (QV X 1 N s.heap.size) args s 0 0 (AA X 1 s.heap.size)) 2 e_2 86 [(0, .ref (X.2.2 200))] [] := by
    refine z_aload_n S dX10_remembers_86 rfl 0 rfl ?_
    refine z_dup S rfl dX10_remembers_87 ?_
    refine z_getI S fo_RX10_184 rfl ok_200 dX10_remembers_88 ?_
    refine z_iconst (v := 1) S dX10_remembers_91 (by decide) ?_
    refine z_iadd S dX10_remembers_92 ?_
    refine z_putIb S fo_RX10_184p rfl ok_200 rfl rfl he dX10_remembers_93 (fun M3 he => ?_)
    exact z_vret S (Option.some.inj he) dX10_remembers_96
  exact loopZ (Zh := (fun a_2 => Z X 1 p l e rm_X10_remembers s m args below meth c 0 0 (MQ below (QV X 1 N s.heap.size) args s 0 0 (AA X 1 s.heap.size)) 2 a_2.1 52 [(0, .ref (X.2.2 200)), (1, .int a_2.2)] [])) (fun a_2 x hb hc hr => p_X10_remembers_L52 S  hb hc (fun b hxe => by rw [hr b hxe]; exact hX)) FU _ hl
set_option maxRecDepth 100000 in
set_option maxHeartbeats 4000000 in
theorem p_X10_remembers_L11 {X : Cx} {p : Program} {l : Launch} {e : Env} {s : State} {m : MethodId} {args : Array Value} {below : List Frame} {meth : Method} {c : Code} (S : SB X 1 p s m args meth c cX10_remembers 2 none RX10) {M : Mm} {N : Mm} {v1 : Int32} {x : (Mm × Int32) ⊕ Mm}  (he : f_X10_remembers_L11 M v1 = some x) (hc : ∀ b, x = .inl b → Z X 1 p l e rm_X10_remembers s m args below meth c 0 0 (MQ below (QV X 1 N s.heap.size) args s 0 0 (AA X 1 s.heap.size)) 2 b.1 11 [(0, .ref (X.2.2 200)), (1, .int b.2)] []) (hx : ∀ b, x = .inr b → Z X 1 p l e rm_X10_remembers s m args below meth c 0 0 (MQ below (QV X 1 N s.heap.size) args s 0 0 (AA X 1 s.heap.size)) 2 b 40 [(0, .ref (X.2.2 200))] []) : Z X 1 p l e rm_X10_remembers s m args below meth c 0 0 (MQ below (QV X 1 N s.heap.size) args s 0 0 (AA X 1 s.heap.size)) 2 M 11 [(0, .ref (X.2.2 200)), (1, .int v1)] [] := by
  unfold f_X10_remembers_L11 at he
  refine z_iload_n S dX10_remembers_11 rfl 1 rfl ?_
  refine z_sipush (v := 4477) S dX10_remembers_12 (by decide) ?_
  refine z_icmp_ge (tgt := 40) S he dX10_remembers_15 (by decide) (fun he => ?_) (fun he => ?_)
  · refine z_lv (ks := [0]) rfl ?_
    exact hx _ (Option.some.inj he).symm
  · refine z_aload_n S dX10_remembers_18 rfl 0 rfl ?_
    refine z_getF (j := 204) S fo_RX10_19 4 rfl rfl ok_200 dX10_remembers_19 ?_
    refine z_iload_n S dX10_remembers_22 rfl 1 rfl ?_
    refine z_aload_n S dX10_remembers_23 rfl 0 rfl ?_
    refine z_getF (j := 204) S fo_RX10_19 4 rfl rfl ok_200 dX10_remembers_24 ?_
    refine z_iload_n S dX10_remembers_27 rfl 1 rfl ?_
    refine z_sipush (v := 407) S dX10_remembers_28 (by decide) ?_
    refine z_iadd S dX10_remembers_31 ?_
    refine z_iald S ok_204 rfl he dX10_remembers_32 (fun he => ?_)
    refine z_iastb S ok_204 rfl he dX10_remembers_33 (fun M4 he => ?_)
    refine z_iinc (v := (v1 + 1)) (lv' := [(0, .ref (X.2.2 200)), (1, .int (v1 + 1))]) S [1, 0] 1 dX10_remembers_34 rfl (by rfl) (by decide) rfl ?_
    refine z_goto (tgt := 11) S dX10_remembers_37 (by decide) ?_
    refine z_lv (ks := [0, 1]) rfl ?_
    exact hc _ (Option.some.inj he).symm
set_option maxRecDepth 100000 in
set_option maxHeartbeats 4000000 in
theorem K_X10_remembers {X : Cx} {l : Launch} {M : Mm} {N : Mm}  (he : f_X10_remembers M  = some N) : KV X 1 l yX10_remembers (wz yX10_remembers cX10_remembers 2 none) rm_X10_remembers [.ref (X.2.2 200)] M N := by
  intro sz
  refine K_of (Qc := (fun sz => QV X 1 N sz)) (own := RX10) (lv0 := [(0, .ref (X.2.2 200))]) (by decide +kernel) rfl (Nat.le_of_ble_eq_true rfl) rfl (fun p e s m args below meth c S => ?_) sz
  · unfold f_X10_remembers at he
    refine z_aload_n S dX10_remembers_0 rfl 0 rfl ?_
    refine z_getI S fo_RX10_184 rfl ok_200 dX10_remembers_1 ?_
    refine z_bipush (v := 12) S dX10_remembers_4 (by decide) ?_
    refine z_icmp_ne (tgt := 50) S he dX10_remembers_6 (by decide) (fun he => ?_) (fun he => ?_)
    · exact p_X10_remembers_J50 S  he
    · refine z_iconst (v := 0) S dX10_remembers_9 (by decide) ?_
      refine z_istore_n (lv' := [(0, .ref (X.2.2 200)), (1, .int 0)]) S [1, 0] dX10_remembers_10 rfl (by decide) rfl ?_
      obtain ⟨e_5, hl, he⟩ := bnd he
      have hX : Z X 1 p l e rm_X10_remembers s m args below meth c 0 0 (MQ below (QV X 1 N s.heap.size) args s 0 0 (AA X 1 s.heap.size)) 2 e_5 40 [(0, .ref (X.2.2 200))] [] := by
        refine z_aload_n S dX10_remembers_40 rfl 0 rfl ?_
        refine z_dup S rfl dX10_remembers_41 ?_
        refine z_getI S fo_RX10_184 rfl ok_200 dX10_remembers_42 ?_
        refine z_iconst (v := 1) S dX10_remembers_45 (by decide) ?_
        refine z_isub S dX10_remembers_46 ?_
        refine z_putIb S fo_RX10_184p rfl ok_200 rfl rfl he dX10_remembers_47 (fun M6 he => ?_)
        exact p_X10_remembers_J50 S  he
      exact loopZ (Zh := (fun a_5 => Z X 1 p l e rm_X10_remembers s m args below meth c 0 0 (MQ below (QV X 1 N s.heap.size) args s 0 0 (AA X 1 s.heap.size)) 2 a_5.1 11 [(0, .ref (X.2.2 200)), (1, .int a_5.2)] [])) (fun a_5 x hb hc hr => p_X10_remembers_L11 S  hb hc (fun b hxe => by rw [hr b hxe]; exact hX)) FU _ hl
set_option maxRecDepth 100000 in
set_option maxHeartbeats 4000000 in
theorem p_X10_clean_J28 {X : Cx} {p : Program} {l : Launch} {e : Env} {s : State} {m : MethodId} {args : Array Value} {below : List Frame} {meth : Method} {c : Code} (S : SB X 1 p s m args meth c cX10_clean 4 (some .int) RX10) {M : Mm} {N : Mm} {r : Int32} {v1 : Int32} {v2 : Int32} {t0 : Int32}  (he : f_X10_clean_J28 M v1 v2 t0 = some (r, N)) : Z X 1 p l e rm_X10_clean s m args below meth c 0 0 (MQ below (QI X 1 r N s.heap.size) args s 0 0 (AA X 1 s.heap.size)) 4 M 28 [(0, .ref (X.2.2 200)), (1, .int v1), (2, .int v2)] [.int t0, .ref (X.2.2 200)] := by
  unfold f_X10_clean_J28 at he
  refine z_putIb S fo_RX10_63p rfl ok_200 rfl rfl he dX10_clean_28 (fun M2 he => ?_)
  refine z_aload_n S dX10_clean_31 rfl 0 rfl ?_
  refine z_getI S fo_RX10_63 rfl ok_200 dX10_clean_32 ?_
  refine z_if_le (tgt := 40) S he dX10_clean_35 (by decide) (fun he => ?_) (fun he => ?_)
  · refine z_aload_n S dX10_clean_40 rfl 0 rfl ?_
    obtain ⟨M3, h9, he⟩ := bnd he
    refine z_cVV (As := []) S cv_RX10_306 (K_X10_remembers  h9) ok_200 (by decide) (q := (RX10, TX10, 28)) rfl rfl ⟨rfl, rfl⟩ ⟨Nat.le_of_ble_eq_true rfl, Nat.le_of_ble_eq_true rfl⟩ ⟨Nat.le_refl _, Nat.le_refl _⟩ rfl rfl (Nat.le_of_ble_eq_true rfl) dX10_clean_41 ?_
    refine z_aload_n S dX10_clean_44 rfl 0 rfl ?_
    refine z_iload_n S dX10_clean_45 rfl 1 rfl ?_
    refine z_iconst (v := 1) S dX10_clean_46 (by decide) ?_
    obtain ⟨r4, h9, he⟩ := bnd he
    refine z_cVI (As := [.int v1, .int 1]) S cv_RX10_246 (K_X10_ofOne  h9) ok_200 (by decide) (q := (RX10, TX10, 28)) rfl rfl ⟨rfl, rfl⟩ ⟨Nat.le_of_ble_eq_true rfl, Nat.le_of_ble_eq_true rfl⟩ ⟨Nat.le_refl _, Nat.le_refl _⟩ rfl rfl (Nat.le_of_ble_eq_true rfl) dX10_clean_47 ?_
    refine z_istore_n (lv' := [(0, .ref (X.2.2 200)), (1, .int v1), (2, .int v2), (3, .int r4)]) S [1, 2, 3, 0] dX10_clean_50 rfl (by decide) rfl ?_
    refine z_aload_n S dX10_clean_51 rfl 0 rfl ?_
    refine z_getF (j := 201) S fo_RX10_7 1 rfl rfl ok_200 dX10_clean_52 ?_
    refine z_bipush (v := 57) S dX10_clean_55 (by decide) ?_
    refine z_iconst (v := 5) S dX10_clean_57 (by decide) ?_
    refine z_iload_n S dX10_clean_58 rfl 1 rfl ?_
    refine z_imul S dX10_clean_59 ?_
    refine z_iadd S dX10_clean_60 ?_
    refine z_iconst (v := 1) S dX10_clean_61 (by decide) ?_
    refine z_iadd S dX10_clean_62 ?_
    refine z_iload_n S dX10_clean_63 rfl 2 rfl ?_
    refine z_iastb S ok_201 rfl he dX10_clean_64 (fun M5 he => ?_)
    refine z_iload_n S dX10_clean_65 rfl 3 rfl ?_
    exact z_iret S (Prod.mk.inj (Option.some.inj he)) dX10_clean_66
  · refine z_iconst (v := 0) S dX10_clean_38 (by decide) ?_
    exact z_iret S (Prod.mk.inj (Option.some.inj he)) dX10_clean_39
set_option maxRecDepth 100000 in
set_option maxHeartbeats 4000000 in
theorem K_X10_clean {X : Cx} {l : Launch} {M : Mm} {a1 : Int32} {a2 : Int32} {r : Int32} {N : Mm}  (he : f_X10_clean M a1 a2 = some (r, N)) : KI X 1 l yX10_clean (wz yX10_clean cX10_clean 4 (some .int)) rm_X10_clean [.ref (X.2.2 200), .int a1, .int a2] M r N := by
  intro sz
  refine K_of (Qc := (fun sz => QI X 1 r N sz)) (own := RX10) (lv0 := [(0, .ref (X.2.2 200)), (1, .int a1), (2, .int a2)]) (by decide +kernel) rfl (Nat.le_of_ble_eq_true rfl) rfl (fun p e s m args below meth c S => ?_) sz
  · unfold f_X10_clean at he
    refine z_aload_n S dX10_clean_0 rfl 0 rfl ?_
    refine z_aload_n S dX10_clean_1 rfl 0 rfl ?_
    refine z_iload_n S dX10_clean_2 rfl 1 rfl ?_
    obtain ⟨r1, h9, he⟩ := bnd he
    refine z_cVI (As := [.int a1]) S cv_RX10_300 (K_X10_isVisitor  h9) ok_200 (by decide) (q := (RX10, TX10, 28)) rfl rfl ⟨rfl, rfl⟩ ⟨Nat.le_of_ble_eq_true rfl, Nat.le_of_ble_eq_true rfl⟩ ⟨Nat.le_refl _, Nat.le_refl _⟩ rfl rfl (Nat.le_of_ble_eq_true rfl) dX10_clean_3 ?_
    refine z_ifb_ne (tgt := 13) S he dX10_clean_6 (by decide) (fun he => ?_) (fun he => ?_)
    · refine z_iload_n S dX10_clean_13 rfl 2 rfl ?_
      refine z_iconst (v := 0) S dX10_clean_14 (by decide) ?_
      refine z_bipush (v := 9) S dX10_clean_15 (by decide) ?_
      refine z_cSI (As := [.int a2, .int 0, .int 9]) S cs_RX10_66 (K_X10_isIn  rfl) ⟨rfl, rfl⟩ ⟨Nat.le_of_ble_eq_true rfl, Nat.le_of_ble_eq_true rfl⟩ ⟨Nat.le_refl _, Nat.le_refl _⟩ rfl rfl (Nat.le_of_ble_eq_true rfl) dX10_clean_17 ?_
      refine z_ifb_ne (tgt := 27) S he dX10_clean_20 (by decide) (fun he => ?_) (fun he => ?_)
      · refine z_iconst (v := 0) S dX10_clean_27 (by decide) ?_
        exact p_X10_clean_J28 S  he
      · refine z_iconst (v := 2) S dX10_clean_23 (by decide) ?_
        refine z_goto (tgt := 28) S dX10_clean_24 (by decide) ?_
        exact p_X10_clean_J28 S  he
    · refine z_iconst (v := 1) S dX10_clean_9 (by decide) ?_
      refine z_goto (tgt := 28) S dX10_clean_10 (by decide) ?_
      exact p_X10_clean_J28 S  he
set_option maxRecDepth 100000 in
set_option maxHeartbeats 4000000 in
theorem p_X10_shown_L4 {X : Cx} {p : Program} {l : Launch} {e : Env} {s : State} {m : MethodId} {args : Array Value} {below : List Frame} {meth : Method} {c : Code} (S : SB X 1 p s m args meth c cX10_shown 3 (some .int) RX10) {M : Mm} {r : Int32} {v1 : Int32} {v2 : Int32} {x : (Int32 × Int32) ⊕ Int32}  (he : f_X10_shown_L4 M v1 v2 = some x) (hc : ∀ b, x = .inl b → Z X 1 p l e rm_X10_shown s m args below meth c 0 0 (MQ below (QI X 1 r M s.heap.size) args s 0 0 (AA X 1 s.heap.size)) 3 M 4 [(0, .ref (X.2.2 200)), (1, .int b.1), (2, .int b.2)] []) (hx : ∀ b, x = .inr b → Z X 1 p l e rm_X10_shown s m args below meth c 0 0 (MQ below (QI X 1 r M s.heap.size) args s 0 0 (AA X 1 s.heap.size)) 3 M 31 [(1, .int b)] []) : Z X 1 p l e rm_X10_shown s m args below meth c 0 0 (MQ below (QI X 1 r M s.heap.size) args s 0 0 (AA X 1 s.heap.size)) 3 M 4 [(0, .ref (X.2.2 200)), (1, .int v1), (2, .int v2)] [] := by
  unfold f_X10_shown_L4 at he
  refine z_iload_n S dX10_shown_4 rfl 2 rfl ?_
  refine z_aload_n S dX10_shown_5 rfl 0 rfl ?_
  refine z_getF (j := 201) S fo_RX10_7 1 rfl rfl ok_200 dX10_shown_6 ?_
  refine z_iconst (v := 3) S dX10_shown_9 (by decide) ?_
  refine z_iald S ok_201 rfl he dX10_shown_10 (fun he => ?_)
  refine z_icmp_ge (tgt := 31) S he dX10_shown_11 (by decide) (fun he => ?_) (fun he => ?_)
  · refine z_lv (ks := [1]) rfl ?_
    exact hx _ (Option.some.inj he).symm
  · refine z_iload_n S dX10_shown_14 rfl 1 rfl ?_
    refine z_aload_n S dX10_shown_15 rfl 0 rfl ?_
    refine z_iload_n S dX10_shown_16 rfl 2 rfl ?_
    refine z_iconst (v := 3) S dX10_shown_17 (by decide) ?_
    obtain ⟨r1, h9, he⟩ := bnd he
    refine z_cVI (As := [.int v2, .int 3]) S cv_RX10_70 (K_X10_of  h9) ok_200 (by decide) (q := (RX10, TX10, 28)) rfl rfl ⟨rfl, rfl⟩ ⟨Nat.le_of_ble_eq_true rfl, Nat.le_of_ble_eq_true rfl⟩ ⟨Nat.le_refl _, Nat.le_refl _⟩ rfl rfl (Nat.le_of_ble_eq_true rfl) dX10_shown_18 ?_
    refine z_iload_n S dX10_shown_21 rfl 2 rfl ?_
    refine z_ishl S dX10_shown_22 ?_
    refine z_ior S dX10_shown_23 ?_
    obtain ⟨x2, ex2, he⟩ := bnd he
    rw [Option.some.inj ex2]
    refine z_istore_n (lv' := [(0, .ref (X.2.2 200)), (1, .int x2), (2, .int v2)]) S [1, 0, 2] dX10_shown_24 rfl (by decide) rfl ?_
    refine z_iinc (v := (v2 + 1)) (lv' := [(0, .ref (X.2.2 200)), (1, .int x2), (2, .int (v2 + 1))]) S [1, 2, 0] 2 dX10_shown_25 rfl (by rfl) (by decide) rfl ?_
    refine z_goto (tgt := 4) S dX10_shown_28 (by decide) ?_
    refine z_lv (ks := [0, 1, 2]) rfl ?_
    exact hc _ (Option.some.inj he).symm
set_option maxRecDepth 100000 in
set_option maxHeartbeats 4000000 in
theorem K_X10_shown {X : Cx} {l : Launch} {M : Mm} {r : Int32}  (he : f_X10_shown M  = some r) : KI X 1 l yX10_shown (wz yX10_shown cX10_shown 3 (some .int)) rm_X10_shown [.ref (X.2.2 200)] M r M := by
  intro sz
  refine K_of (Qc := (fun sz => QI X 1 r M sz)) (own := RX10) (lv0 := [(0, .ref (X.2.2 200))]) (by decide +kernel) rfl (Nat.le_of_ble_eq_true rfl) rfl (fun p e s m args below meth c S => ?_) sz
  · unfold f_X10_shown at he
    refine z_iconst (v := 0) S dX10_shown_0 (by decide) ?_
    refine z_istore_n (lv' := [(0, .ref (X.2.2 200)), (1, .int 0)]) S [1, 0] dX10_shown_1 rfl (by decide) rfl ?_
    refine z_iconst (v := 0) S dX10_shown_2 (by decide) ?_
    refine z_istore_n (lv' := [(0, .ref (X.2.2 200)), (1, .int 0), (2, .int 0)]) S [1, 2, 0] dX10_shown_3 rfl (by decide) rfl ?_
    obtain ⟨e_3, hl, he⟩ := bnd he
    have hX : Z X 1 p l e rm_X10_shown s m args below meth c 0 0 (MQ below (QI X 1 r M s.heap.size) args s 0 0 (AA X 1 s.heap.size)) 3 M 31 [(1, .int e_3)] [] := by
      refine z_iload_n S dX10_shown_31 rfl 0 rfl ?_
      exact z_iret S (⟨Option.some.inj he, rfl⟩) dX10_shown_32
    exact loopZ (Zh := (fun a_3 => Z X 1 p l e rm_X10_shown s m args below meth c 0 0 (MQ below (QI X 1 r M s.heap.size) args s 0 0 (AA X 1 s.heap.size)) 3 M 4 [(0, .ref (X.2.2 200)), (1, .int a_3.1), (2, .int a_3.2)] [])) (fun a_3 x hb hc hr => p_X10_shown_L4 S  hb hc (fun b hxe => by rw [hr b hxe]; exact hX)) FU _ hl
set_option maxRecDepth 100000 in
set_option maxHeartbeats 4000000 in
theorem p_X10_together_L4 {X : Cx} {p : Program} {l : Launch} {e : Env} {s : State} {m : MethodId} {args : Array Value} {below : List Frame} {meth : Method} {c : Code} (S : SB X 1 p s m args meth c cX10_together 4 (some .int) RX10) {M : Mm} {r : Int32} {v1 : Int32} {v2 : Int32} {v3 : Int32} {x : (Int32 × Int32) ⊕ Int32}  (he : f_X10_together_L4 M v1 v2 v3 = some x) (hc : ∀ b, x = .inl b → Z X 1 p l e rm_X10_together s m args below meth c 0 0 (MQ below (QI X 1 r M s.heap.size) args s 0 0 (AA X 1 s.heap.size)) 4 M 4 [(0, .ref (X.2.2 200)), (1, .int v1), (2, .int b.1), (3, .int b.2)] []) (hx : ∀ b, x = .inr b → Z X 1 p l e rm_X10_together s m args below meth c 0 0 (MQ below (QI X 1 r M s.heap.size) args s 0 0 (AA X 1 s.heap.size)) 4 M 29 [(2, .int b)] []) : Z X 1 p l e rm_X10_together s m args below meth c 0 0 (MQ below (QI X 1 r M s.heap.size) args s 0 0 (AA X 1 s.heap.size)) 4 M 4 [(0, .ref (X.2.2 200)), (1, .int v1), (2, .int v2), (3, .int v3)] [] := by
  unfold f_X10_together_L4 at he
  refine z_iload_n S dX10_together_4 rfl 3 rfl ?_
  refine z_aload_n S dX10_together_5 rfl 0 rfl ?_
  refine z_getF (j := 201) S fo_RX10_7 1 rfl rfl ok_200 dX10_together_6 ?_
  refine z_iconst (v := 3) S dX10_together_9 (by decide) ?_
  refine z_iald S ok_201 rfl he dX10_together_10 (fun he => ?_)
  refine z_icmp_ge (tgt := 29) S he dX10_together_11 (by decide) (fun he => ?_) (fun he => ?_)
  · refine z_lv (ks := [2]) rfl ?_
    exact hx _ (Option.some.inj he).symm
  · refine z_iload_n S dX10_together_14 rfl 2 rfl ?_
    refine z_aload_n S dX10_together_15 rfl 0 rfl ?_
    refine z_iload_n S dX10_together_16 rfl 3 rfl ?_
    refine z_iload_n S dX10_together_17 rfl 1 rfl ?_
    obtain ⟨r1, h9, he⟩ := bnd he
    refine z_cVI (As := [.int v3, .int v1]) S cv_RX10_70 (K_X10_of  h9) ok_200 (by decide) (q := (RX10, TX10, 28)) rfl rfl ⟨rfl, rfl⟩ ⟨Nat.le_of_ble_eq_true rfl, Nat.le_of_ble_eq_true rfl⟩ ⟨Nat.le_refl _, Nat.le_refl _⟩ rfl rfl (Nat.le_of_ble_eq_true rfl) dX10_together_18 ?_
    refine z_iadd S dX10_together_21 ?_
    refine z_istore_n (lv' := [(0, .ref (X.2.2 200)), (1, .int v1), (2, .int (v2 + r1)), (3, .int v3)]) S [1, 2, 0, 3] dX10_together_22 rfl (by decide) rfl ?_
    refine z_iinc (v := (v3 + 1)) (lv' := [(0, .ref (X.2.2 200)), (1, .int v1), (2, .int (v2 + r1)), (3, .int (v3 + 1))]) S [1, 2, 3, 0] 3 dX10_together_23 rfl (by rfl) (by decide) rfl ?_
    refine z_goto (tgt := 4) S dX10_together_26 (by decide) ?_
    refine z_lv (ks := [0, 1, 2, 3]) rfl ?_
    exact hc _ (Option.some.inj he).symm
set_option maxRecDepth 100000 in
set_option maxHeartbeats 4000000 in
theorem K_X10_together {X : Cx} {l : Launch} {M : Mm} {a1 : Int32} {r : Int32}  (he : f_X10_together M a1 = some r) : KI X 1 l yX10_together (wz yX10_together cX10_together 4 (some .int)) rm_X10_together [.ref (X.2.2 200), .int a1] M r M := by
  intro sz
  refine K_of (Qc := (fun sz => QI X 1 r M sz)) (own := RX10) (lv0 := [(0, .ref (X.2.2 200)), (1, .int a1)]) (by decide +kernel) rfl (Nat.le_of_ble_eq_true rfl) rfl (fun p e s m args below meth c S => ?_) sz
  · unfold f_X10_together at he
    refine z_iconst (v := 0) S dX10_together_0 (by decide) ?_
    refine z_istore_n (lv' := [(0, .ref (X.2.2 200)), (1, .int a1), (2, .int 0)]) S [1, 2, 0] dX10_together_1 rfl (by decide) rfl ?_
    refine z_iconst (v := 0) S dX10_together_2 (by decide) ?_
    refine z_istore_n (lv' := [(0, .ref (X.2.2 200)), (1, .int a1), (2, .int 0), (3, .int 0)]) S [1, 2, 3, 0] dX10_together_3 rfl (by decide) rfl ?_
    obtain ⟨e_2, hl, he⟩ := bnd he
    have hX : Z X 1 p l e rm_X10_together s m args below meth c 0 0 (MQ below (QI X 1 r M s.heap.size) args s 0 0 (AA X 1 s.heap.size)) 4 M 29 [(2, .int e_2)] [] := by
      refine z_iload_n S dX10_together_29 rfl 0 rfl ?_
      exact z_iret S (⟨Option.some.inj he, rfl⟩) dX10_together_30
    exact loopZ (Zh := (fun a_2 => Z X 1 p l e rm_X10_together s m args below meth c 0 0 (MQ below (QI X 1 r M s.heap.size) args s 0 0 (AA X 1 s.heap.size)) 4 M 4 [(0, .ref (X.2.2 200)), (1, .int a1), (2, .int a_2.1), (3, .int a_2.2)] [])) (fun a_2 x hb hc hr => p_X10_together_L4 S  hb hc (fun b hxe => by rw [hr b hxe]; exact hX)) FU _ hl
set_option maxRecDepth 100000 in
set_option maxHeartbeats 4000000 in
theorem K_X10_count {X : Cx} {l : Launch} {M : Mm} {a1 : Int32} {r : Int32} {N : Mm}  (he : f_X10_count M a1 = some (r, N)) : KI X 1 l yX10_count (wz yX10_count cX10_count 2 (some .int)) rm_X10_count [.ref (X.2.2 200), .int a1] M r N := by
  intro sz
  refine K_of (Qc := (fun sz => QI X 1 r N sz)) (own := RX10) (lv0 := [(0, .ref (X.2.2 200)), (1, .int a1)]) (by decide +kernel) rfl (Nat.le_of_ble_eq_true rfl) rfl (fun p e s m args below meth c S => ?_) sz
  · unfold f_X10_count at he
    refine z_aload_n S dX10_count_0 rfl 0 rfl ?_
    refine z_iconst (v := 0) S dX10_count_1 (by decide) ?_
    refine z_putIb S fo_RX10_63p rfl ok_200 rfl rfl he dX10_count_2 (fun M1 he => ?_)
    refine z_iload_n S dX10_count_5 rfl 1 rfl ?_
    refine z_if_ne (tgt := 16) S he dX10_count_6 (by decide) (fun he => ?_) (fun he => ?_)
    · refine z_iload_n S dX10_count_16 rfl 1 rfl ?_
      refine z_iconst (v := 1) S dX10_count_17 (by decide) ?_
      refine z_icmp_ne (tgt := 28) S he dX10_count_18 (by decide) (fun he => ?_) (fun he => ?_)
      · refine z_iload_n S dX10_count_28 rfl 1 rfl ?_
        refine z_iconst (v := 2) S dX10_count_29 (by decide) ?_
        refine z_icmp_ne (tgt := 40) S he dX10_count_30 (by decide) (fun he => ?_) (fun he => ?_)
        · refine z_iload_n S dX10_count_40 rfl 1 rfl ?_
          refine z_iconst (v := 3) S dX10_count_41 (by decide) ?_
          refine z_icmp_ne (tgt := 52) S he dX10_count_42 (by decide) (fun he => ?_) (fun he => ?_)
          · refine z_iload_n S dX10_count_52 rfl 1 rfl ?_
            refine z_iconst (v := 4) S dX10_count_53 (by decide) ?_
            refine z_icmp_ne (tgt := 65) S he dX10_count_54 (by decide) (fun he => ?_) (fun he => ?_)
            · refine z_iload_n S dX10_count_65 rfl 1 rfl ?_
              refine z_iconst (v := 5) S dX10_count_66 (by decide) ?_
              refine z_icmp_ne (tgt := 77) S he dX10_count_67 (by decide) (fun he => ?_) (fun he => ?_)
              · refine z_iload_n S dX10_count_77 rfl 1 rfl ?_
                refine z_bipush (v := 6) S dX10_count_78 (by decide) ?_
                refine z_icmp_ne (tgt := 88) S he dX10_count_80 (by decide) (fun he => ?_) (fun he => ?_)
                · refine z_iload_n S dX10_count_88 rfl 1 rfl ?_
                  refine z_bipush (v := 7) S dX10_count_89 (by decide) ?_
                  refine z_icmp_ne (tgt := 100) S he dX10_count_91 (by decide) (fun he => ?_) (fun he => ?_)
                  · refine z_iload_n S dX10_count_100 rfl 1 rfl ?_
                    refine z_bipush (v := 8) S dX10_count_101 (by decide) ?_
                    refine z_icmp_ne (tgt := 112) S he dX10_count_103 (by decide) (fun he => ?_) (fun he => ?_)
                    · refine z_iload_n S dX10_count_112 rfl 1 rfl ?_
                      refine z_bipush (v := 9) S dX10_count_113 (by decide) ?_
                      refine z_icmp_ne (tgt := 126) S he dX10_count_115 (by decide) (fun he => ?_) (fun he => ?_)
                      · refine z_iload_n S dX10_count_126 rfl 1 rfl ?_
                        refine z_bipush (v := 10) S dX10_count_127 (by decide) ?_
                        refine z_icmp_ne (tgt := 140) S he dX10_count_129 (by decide) (fun he => ?_) (fun he => ?_)
                        · refine z_iload_n S dX10_count_140 rfl 1 rfl ?_
                          refine z_bipush (v := 11) S dX10_count_141 (by decide) ?_
                          refine z_icmp_ne (tgt := 153) S he dX10_count_143 (by decide) (fun he => ?_) (fun he => ?_)
                          · refine z_iconst (v := (-1)) S dX10_count_153 (by decide) ?_
                            exact z_iret S (Prod.mk.inj (Option.some.inj he)) dX10_count_154
                          · refine z_aload_n S dX10_count_146 rfl 0 rfl ?_
                            refine z_getI S fo_RX10_184 rfl ok_200 dX10_count_147 ?_
                            refine z_goto (tgt := 154) S dX10_count_150 (by decide) ?_
                            exact z_iret S (Prod.mk.inj (Option.some.inj he)) dX10_count_154
                        · refine z_aload_n S dX10_count_132 rfl 0 rfl ?_
                          refine z_getF (j := 201) S fo_RX10_7 1 rfl rfl ok_200 dX10_count_133 ?_
                          refine z_bipush (v := 8) S dX10_count_136 (by decide) ?_
                          refine z_iald S ok_201 rfl he dX10_count_138 (fun he => ?_)
                          exact z_iret S (Prod.mk.inj (Option.some.inj he)) dX10_count_139
                      · refine z_aload_n S dX10_count_118 rfl 0 rfl ?_
                        refine z_getF (j := 201) S fo_RX10_7 1 rfl rfl ok_200 dX10_count_119 ?_
                        refine z_bipush (v := 7) S dX10_count_122 (by decide) ?_
                        refine z_iald S ok_201 rfl he dX10_count_124 (fun he => ?_)
                        exact z_iret S (Prod.mk.inj (Option.some.inj he)) dX10_count_125
                    · refine z_aload_n S dX10_count_106 rfl 0 rfl ?_
                      refine z_iconst (v := 2) S dX10_count_107 (by decide) ?_
                      obtain ⟨r2, h9, he⟩ := bnd he
                      refine z_cVI (As := [.int 2]) S cv_RX10_358 (K_X10_together  h9) ok_200 (by decide) (q := (RX10, TX10, 28)) rfl rfl ⟨rfl, rfl⟩ ⟨Nat.le_of_ble_eq_true rfl, Nat.le_of_ble_eq_true rfl⟩ ⟨Nat.le_refl _, Nat.le_refl _⟩ rfl rfl (Nat.le_of_ble_eq_true rfl) dX10_count_108 ?_
                      exact z_iret S (Prod.mk.inj (Option.some.inj he)) dX10_count_111
                  · refine z_aload_n S dX10_count_94 rfl 0 rfl ?_
                    refine z_iconst (v := 4) S dX10_count_95 (by decide) ?_
                    obtain ⟨r3, h9, he⟩ := bnd he
                    refine z_cVI (As := [.int 4]) S cv_RX10_358 (K_X10_together  h9) ok_200 (by decide) (q := (RX10, TX10, 28)) rfl rfl ⟨rfl, rfl⟩ ⟨Nat.le_of_ble_eq_true rfl, Nat.le_of_ble_eq_true rfl⟩ ⟨Nat.le_refl _, Nat.le_refl _⟩ rfl rfl (Nat.le_of_ble_eq_true rfl) dX10_count_96 ?_
                    exact z_iret S (Prod.mk.inj (Option.some.inj he)) dX10_count_99
                · refine z_aload_n S dX10_count_83 rfl 0 rfl ?_
                  obtain ⟨r4, h9, he⟩ := bnd he
                  refine z_cVI (As := []) S cv_RX10_355 (K_X10_shown  h9) ok_200 (by decide) (q := (RX10, TX10, 28)) rfl rfl ⟨rfl, rfl⟩ ⟨Nat.le_of_ble_eq_true rfl, Nat.le_of_ble_eq_true rfl⟩ ⟨Nat.le_refl _, Nat.le_refl _⟩ rfl rfl (Nat.le_of_ble_eq_true rfl) dX10_count_84 ?_
                  exact z_iret S (Prod.mk.inj (Option.some.inj he)) dX10_count_87
              · refine z_aload_n S dX10_count_70 rfl 0 rfl ?_
                refine z_getF (j := 201) S fo_RX10_7 1 rfl rfl ok_200 dX10_count_71 ?_
                refine z_iconst (v := 5) S dX10_count_74 (by decide) ?_
                refine z_iald S ok_201 rfl he dX10_count_75 (fun he => ?_)
                exact z_iret S (Prod.mk.inj (Option.some.inj he)) dX10_count_76
            · refine z_aload_n S dX10_count_57 rfl 0 rfl ?_
              refine z_getF (j := 201) S fo_RX10_7 1 rfl rfl ok_200 dX10_count_58 ?_
              refine z_bipush (v := 6) S dX10_count_61 (by decide) ?_
              refine z_iald S ok_201 rfl he dX10_count_63 (fun he => ?_)
              exact z_iret S (Prod.mk.inj (Option.some.inj he)) dX10_count_64
          · refine z_aload_n S dX10_count_45 rfl 0 rfl ?_
            refine z_getF (j := 201) S fo_RX10_7 1 rfl rfl ok_200 dX10_count_46 ?_
            refine z_iconst (v := 1) S dX10_count_49 (by decide) ?_
            refine z_iald S ok_201 rfl he dX10_count_50 (fun he => ?_)
            exact z_iret S (Prod.mk.inj (Option.some.inj he)) dX10_count_51
        · refine z_aload_n S dX10_count_33 rfl 0 rfl ?_
          refine z_getF (j := 201) S fo_RX10_7 1 rfl rfl ok_200 dX10_count_34 ?_
          refine z_iconst (v := 0) S dX10_count_37 (by decide) ?_
          refine z_iald S ok_201 rfl he dX10_count_38 (fun he => ?_)
          exact z_iret S (Prod.mk.inj (Option.some.inj he)) dX10_count_39
      · refine z_aload_n S dX10_count_21 rfl 0 rfl ?_
        refine z_getF (j := 201) S fo_RX10_7 1 rfl rfl ok_200 dX10_count_22 ?_
        refine z_iconst (v := 4) S dX10_count_25 (by decide) ?_
        refine z_iald S ok_201 rfl he dX10_count_26 (fun he => ?_)
        exact z_iret S (Prod.mk.inj (Option.some.inj he)) dX10_count_27
    · refine z_aload_n S dX10_count_9 rfl 0 rfl ?_
      refine z_getF (j := 201) S fo_RX10_7 1 rfl rfl ok_200 dX10_count_10 ?_
      refine z_iconst (v := 3) S dX10_count_13 (by decide) ?_
      refine z_iald S ok_201 rfl he dX10_count_14 (fun he => ?_)
      exact z_iret S (Prod.mk.inj (Option.some.inj he)) dX10_count_15
set_option maxRecDepth 100000 in
set_option maxHeartbeats 4000000 in
theorem p_X10_stepsOn_J2_54 {X : Cx} {p : Program} {l : Launch} {e : Env} {s : State} {m : MethodId} {args : Array Value} {below : List Frame} {meth : Method} {c : Code} (S : SB X 1 p s m args meth c cX10_stepsOn 7 (some .int) RX10) {M : Mm} {N : Mm} {r : Int32} {v1 : Int32} {v2 : Int32} {t0 : Int32} {t1 : Int32} {x : (Mm × Int32) ⊕ Mm}  (he : f_X10_stepsOn_J2_54 M v1 v2 t0 t1 = some x) (hc : ∀ b, x = .inl b → Z X 1 p l e rm_X10_stepsOn s m args below meth c 0 0 (MQ below (QI X 1 r N s.heap.size) args s 0 0 (AA X 1 s.heap.size)) 7 b.1 2 [(0, .ref (X.2.2 200)), (1, .int v1), (2, .int b.2)] []) (hx : ∀ b, x = .inr b → Z X 1 p l e rm_X10_stepsOn s m args below meth c 0 0 (MQ below (QI X 1 r N s.heap.size) args s 0 0 (AA X 1 s.heap.size)) 7 b 68 [(0, .ref (X.2.2 200)), (1, .int v1)] []) : Z X 1 p l e rm_X10_stepsOn s m args below meth c 0 0 (MQ below (QI X 1 r N s.heap.size) args s 0 0 (AA X 1 s.heap.size)) 7 M 54 [(0, .ref (X.2.2 200)), (1, .int v1), (2, .int v2)] [.int t0, .int t1, .ref (X.2.2 214)] := by
  unfold f_X10_stepsOn_J2_54 at he
  refine z_iastb S ok_214 rfl he dX10_stepsOn_54 (fun M1 he => ?_)
  refine z_aload_n S dX10_stepsOn_55 rfl 0 rfl ?_
  refine z_getF (j := 215) S fo_RX10_56 15 rfl rfl ok_200 dX10_stepsOn_56 ?_
  refine z_iload_n S dX10_stepsOn_59 rfl 2 rfl ?_
  refine z_iconst (v := (-1)) S dX10_stepsOn_60 (by decide) ?_
  refine z_iastb S ok_215 rfl he dX10_stepsOn_61 (fun M2 he => ?_)
  refine z_iinc (v := (v2 + 1)) (lv' := [(0, .ref (X.2.2 200)), (1, .int v1), (2, .int (v2 + 1))]) S [1, 2, 0] 2 dX10_stepsOn_62 rfl (by rfl) (by decide) rfl ?_
  refine z_goto (tgt := 2) S dX10_stepsOn_65 (by decide) ?_
  refine z_lv (ks := [0, 1, 2]) rfl ?_
  exact hc _ (Option.some.inj he).symm
set_option maxRecDepth 100000 in
set_option maxHeartbeats 4000000 in
theorem p_X10_stepsOn_J2_51 {X : Cx} {p : Program} {l : Launch} {e : Env} {s : State} {m : MethodId} {args : Array Value} {below : List Frame} {meth : Method} {c : Code} (S : SB X 1 p s m args meth c cX10_stepsOn 7 (some .int) RX10) {M : Mm} {N : Mm} {r : Int32} {v1 : Int32} {v2 : Int32} {t0 : Int32} {x : (Mm × Int32) ⊕ Mm}  (he : f_X10_stepsOn_J2_51 M v1 v2 t0 = some x) (hc : ∀ b, x = .inl b → Z X 1 p l e rm_X10_stepsOn s m args below meth c 0 0 (MQ below (QI X 1 r N s.heap.size) args s 0 0 (AA X 1 s.heap.size)) 7 b.1 2 [(0, .ref (X.2.2 200)), (1, .int v1), (2, .int b.2)] []) (hx : ∀ b, x = .inr b → Z X 1 p l e rm_X10_stepsOn s m args below meth c 0 0 (MQ below (QI X 1 r N s.heap.size) args s 0 0 (AA X 1 s.heap.size)) 7 b 68 [(0, .ref (X.2.2 200)), (1, .int v1)] []) : Z X 1 p l e rm_X10_stepsOn s m args below meth c 0 0 (MQ below (QI X 1 r N s.heap.size) args s 0 0 (AA X 1 s.heap.size)) 7 M 51 [(0, .ref (X.2.2 200)), (1, .int v1), (2, .int v2)] [.int t0, .ref (X.2.2 214)] := by
  unfold f_X10_stepsOn_J2_51 at he
  refine z_ldcw (v := (-2000000000)) S kc_RX10_330 dX10_stepsOn_51 ?_
  exact p_X10_stepsOn_J2_54 S  he hc hx
set_option maxRecDepth 100000 in
set_option maxHeartbeats 4000000 in
theorem p_X10_stepsOn_L2 {X : Cx} {p : Program} {l : Launch} {e : Env} {s : State} {m : MethodId} {args : Array Value} {below : List Frame} {meth : Method} {c : Code} (S : SB X 1 p s m args meth c cX10_stepsOn 7 (some .int) RX10) {M : Mm} {N : Mm} {r : Int32} {v1 : Int32} {v2 : Int32} {x : (Mm × Int32) ⊕ Mm}  (he : f_X10_stepsOn_L2 M v1 v2 = some x) (hc : ∀ b, x = .inl b → Z X 1 p l e rm_X10_stepsOn s m args below meth c 0 0 (MQ below (QI X 1 r N s.heap.size) args s 0 0 (AA X 1 s.heap.size)) 7 b.1 2 [(0, .ref (X.2.2 200)), (1, .int v1), (2, .int b.2)] []) (hx : ∀ b, x = .inr b → Z X 1 p l e rm_X10_stepsOn s m args below meth c 0 0 (MQ below (QI X 1 r N s.heap.size) args s 0 0 (AA X 1 s.heap.size)) 7 b 68 [(0, .ref (X.2.2 200)), (1, .int v1)] []) : Z X 1 p l e rm_X10_stepsOn s m args below meth c 0 0 (MQ below (QI X 1 r N s.heap.size) args s 0 0 (AA X 1 s.heap.size)) 7 M 2 [(0, .ref (X.2.2 200)), (1, .int v1), (2, .int v2)] [] := by
  unfold f_X10_stepsOn_L2 at he
  refine z_iload_n S dX10_stepsOn_2 rfl 2 rfl ?_
  refine z_bipush (v := 19) S dX10_stepsOn_3 (by decide) ?_
  refine z_icmp_ge (tgt := 68) S he dX10_stepsOn_5 (by decide) (fun he => ?_) (fun he => ?_)
  · refine z_lv (ks := [0, 1]) rfl ?_
    exact hx _ (Option.some.inj he).symm
  · refine z_aload_n S dX10_stepsOn_8 rfl 0 rfl ?_
    refine z_getF (j := 214) S fo_RX10_53 14 rfl rfl ok_200 dX10_stepsOn_9 ?_
    refine z_iload_n S dX10_stepsOn_12 rfl 2 rfl ?_
    refine z_iload_n S dX10_stepsOn_13 rfl 2 rfl ?_
    refine z_bipush (v := 9) S dX10_stepsOn_14 (by decide) ?_
    refine z_iload_n S dX10_stepsOn_16 rfl 1 rfl ?_
    refine z_iadd S dX10_stepsOn_17 ?_
    refine z_icmp_lt (tgt := 51) S he dX10_stepsOn_18 (by decide) (fun he => ?_) (fun he => ?_)
    · exact p_X10_stepsOn_J2_51 S  he hc hx
    · refine z_iload_n S dX10_stepsOn_21 rfl 2 rfl ?_
      refine z_bipush (v := 9) S dX10_stepsOn_22 (by decide) ?_
      refine z_aload_n S dX10_stepsOn_24 rfl 0 rfl ?_
      refine z_getF (j := 201) S fo_RX10_7 1 rfl rfl ok_200 dX10_stepsOn_25 ?_
      refine z_iconst (v := 4) S dX10_stepsOn_28 (by decide) ?_
      refine z_iald S ok_201 rfl he dX10_stepsOn_29 (fun he => ?_)
      refine z_iadd S dX10_stepsOn_30 ?_
      refine z_icmp_ge (tgt := 51) S he dX10_stepsOn_31 (by decide) (fun he => ?_) (fun he => ?_)
      · exact p_X10_stepsOn_J2_51 S  he hc hx
      · refine z_aload_n S dX10_stepsOn_34 rfl 0 rfl ?_
        refine z_getF (j := 211) S fo_RX10_44 11 rfl rfl ok_200 dX10_stepsOn_35 ?_
        refine z_iload_n S dX10_stepsOn_38 rfl 2 rfl ?_
        refine z_bipush (v := 9) S dX10_stepsOn_39 (by decide) ?_
        refine z_isub S dX10_stepsOn_41 ?_
        refine z_iald S ok_211 rfl he dX10_stepsOn_42 (fun he => ?_)
        refine z_iconst (v := (-1)) S dX10_stepsOn_43 (by decide) ?_
        refine z_icmp_ne (tgt := 51) S he dX10_stepsOn_44 (by decide) (fun he => ?_) (fun he => ?_)
        · exact p_X10_stepsOn_J2_51 S  he hc hx
        · refine z_iconst (v := 0) S dX10_stepsOn_47 (by decide) ?_
          refine z_goto (tgt := 54) S dX10_stepsOn_48 (by decide) ?_
          exact p_X10_stepsOn_J2_54 S  he hc hx
set_option maxRecDepth 100000 in
set_option maxHeartbeats 4000000 in
theorem p_X10_stepsOn_J91_208 {X : Cx} {p : Program} {l : Launch} {e : Env} {s : State} {m : MethodId} {args : Array Value} {below : List Frame} {meth : Method} {c : Code} (S : SB X 1 p s m args meth c cX10_stepsOn 7 (some .int) RX10) {M : Mm} {N : Mm} {r : Int32} {v1 : Int32} {v2 : Int32} {v3 : Int32} {v4 : Int32} {v5 : Int32} {x : (Mm × Int32) ⊕ Mm}  (he : f_X10_stepsOn_J91_208 M v1 v2 v3 v4 v5 = some x) (hc : ∀ b, x = .inl b → Z X 1 p l e rm_X10_stepsOn s m args below meth c 0 0 (MQ below (QI X 1 r N s.heap.size) args s 0 0 (AA X 1 s.heap.size)) 7 b.1 91 [(0, .ref (X.2.2 200)), (1, .int v1), (2, .int v2), (3, .int v3), (4, .int b.2)] []) (hx : ∀ b, x = .inr b → Z X 1 p l e rm_X10_stepsOn s m args below meth c 0 0 (MQ below (QI X 1 r N s.heap.size) args s 0 0 (AA X 1 s.heap.size)) 7 b 290 [(0, .ref (X.2.2 200)), (1, .int v1), (2, .int v2), (3, .int v3)] []) : Z X 1 p l e rm_X10_stepsOn s m args below meth c 0 0 (MQ below (QI X 1 r N s.heap.size) args s 0 0 (AA X 1 s.heap.size)) 7 M 208 [(0, .ref (X.2.2 200)), (1, .int v1), (2, .int v2), (3, .int v3), (4, .int v4), (5, .int v5)] [] := by
  unfold f_X10_stepsOn_J91_208 at he
  refine z_aload_n S dX10_stepsOn_208 rfl 0 rfl ?_
  refine z_getF (j := 211) S fo_RX10_44 11 rfl rfl ok_200 dX10_stepsOn_209 ?_
  refine z_iload_n S dX10_stepsOn_212 rfl 3 rfl ?_
  refine z_iald S ok_211 rfl he dX10_stepsOn_213 (fun he => ?_)
  refine z_iload S dX10_stepsOn_214 4 rfl ?_
  refine z_icmp_ne (tgt := 284) S he dX10_stepsOn_216 (by decide) (fun he => ?_) (fun he => ?_)
  · refine z_iinc (v := (v4 + 1)) (lv' := [(0, .ref (X.2.2 200)), (1, .int v1), (2, .int v2), (3, .int v3), (4, .int (v4 + 1)), (5, .int v5)]) S [1, 2, 3, 4, 0, 5] 4 dX10_stepsOn_284 rfl (by rfl) (by decide) rfl ?_
    refine z_goto (tgt := 91) S dX10_stepsOn_287 (by decide) ?_
    refine z_lv (ks := [0, 1, 2, 3, 4]) rfl ?_
    exact hc _ (Option.some.inj he).symm
  · refine z_aload_n S dX10_stepsOn_219 rfl 0 rfl ?_
    refine z_getF (j := 214) S fo_RX10_53 14 rfl rfl ok_200 dX10_stepsOn_220 ?_
    refine z_iload S dX10_stepsOn_223 4 rfl ?_
    refine z_iald S ok_214 rfl he dX10_stepsOn_225 (fun he => ?_)
    refine z_ldcw (v := (-2000000000)) S kc_RX10_330 dX10_stepsOn_226 ?_
    refine z_icmp_le (tgt := 284) S he dX10_stepsOn_229 (by decide) (fun he => ?_) (fun he => ?_)
    · refine z_iinc (v := (v4 + 1)) (lv' := [(0, .ref (X.2.2 200)), (1, .int v1), (2, .int v2), (3, .int v3), (4, .int (v4 + 1)), (5, .int v5)]) S [1, 2, 3, 4, 0, 5] 4 dX10_stepsOn_284 rfl (by rfl) (by decide) rfl ?_
      refine z_goto (tgt := 91) S dX10_stepsOn_287 (by decide) ?_
      refine z_lv (ks := [0, 1, 2, 3, 4]) rfl ?_
      exact hc _ (Option.some.inj he).symm
    · refine z_aload_n S dX10_stepsOn_232 rfl 0 rfl ?_
      refine z_getF (j := 214) S fo_RX10_53 14 rfl rfl ok_200 dX10_stepsOn_233 ?_
      refine z_iload S dX10_stepsOn_236 4 rfl ?_
      refine z_iald S ok_214 rfl he dX10_stepsOn_238 (fun he => ?_)
      refine z_iload S dX10_stepsOn_239 5 rfl ?_
      refine z_isub S dX10_stepsOn_241 ?_
      refine z_aload_n S dX10_stepsOn_242 rfl 0 rfl ?_
      refine z_getF (j := 214) S fo_RX10_53 14 rfl rfl ok_200 dX10_stepsOn_243 ?_
      refine z_bipush (v := 9) S dX10_stepsOn_246 (by decide) ?_
      refine z_iload_n S dX10_stepsOn_248 rfl 3 rfl ?_
      refine z_iadd S dX10_stepsOn_249 ?_
      refine z_iald S ok_214 rfl he dX10_stepsOn_250 (fun he => ?_)
      refine z_icmp_le (tgt := 284) S he dX10_stepsOn_251 (by decide) (fun he => ?_) (fun he => ?_)
      · refine z_iinc (v := (v4 + 1)) (lv' := [(0, .ref (X.2.2 200)), (1, .int v1), (2, .int v2), (3, .int v3), (4, .int (v4 + 1)), (5, .int v5)]) S [1, 2, 3, 4, 0, 5] 4 dX10_stepsOn_284 rfl (by rfl) (by decide) rfl ?_
        refine z_goto (tgt := 91) S dX10_stepsOn_287 (by decide) ?_
        refine z_lv (ks := [0, 1, 2, 3, 4]) rfl ?_
        exact hc _ (Option.some.inj he).symm
      · refine z_aload_n S dX10_stepsOn_254 rfl 0 rfl ?_
        refine z_getF (j := 214) S fo_RX10_53 14 rfl rfl ok_200 dX10_stepsOn_255 ?_
        refine z_bipush (v := 9) S dX10_stepsOn_258 (by decide) ?_
        refine z_iload_n S dX10_stepsOn_260 rfl 3 rfl ?_
        refine z_iadd S dX10_stepsOn_261 ?_
        refine z_aload_n S dX10_stepsOn_262 rfl 0 rfl ?_
        refine z_getF (j := 214) S fo_RX10_53 14 rfl rfl ok_200 dX10_stepsOn_263 ?_
        refine z_iload S dX10_stepsOn_266 4 rfl ?_
        refine z_iald S ok_214 rfl he dX10_stepsOn_268 (fun he => ?_)
        refine z_iload S dX10_stepsOn_269 5 rfl ?_
        refine z_isub S dX10_stepsOn_271 ?_
        refine z_iastb S ok_214 rfl he dX10_stepsOn_272 (fun M5 he => ?_)
        refine z_aload_n S dX10_stepsOn_273 rfl 0 rfl ?_
        refine z_getF (j := 215) S fo_RX10_56 15 rfl rfl ok_200 dX10_stepsOn_274 ?_
        refine z_bipush (v := 9) S dX10_stepsOn_277 (by decide) ?_
        refine z_iload_n S dX10_stepsOn_279 rfl 3 rfl ?_
        refine z_iadd S dX10_stepsOn_280 ?_
        refine z_iload S dX10_stepsOn_281 4 rfl ?_
        refine z_iastb S ok_215 rfl he dX10_stepsOn_283 (fun M6 he => ?_)
        refine z_iinc (v := (v4 + 1)) (lv' := [(0, .ref (X.2.2 200)), (1, .int v1), (2, .int v2), (3, .int v3), (4, .int (v4 + 1)), (5, .int v5)]) S [1, 2, 3, 4, 0, 5] 4 dX10_stepsOn_284 rfl (by rfl) (by decide) rfl ?_
        refine z_goto (tgt := 91) S dX10_stepsOn_287 (by decide) ?_
        refine z_lv (ks := [0, 1, 2, 3, 4]) rfl ?_
        exact hc _ (Option.some.inj he).symm
set_option maxRecDepth 100000 in
set_option maxHeartbeats 4000000 in
theorem p_X10_stepsOn_L91 {X : Cx} {p : Program} {l : Launch} {e : Env} {s : State} {m : MethodId} {args : Array Value} {below : List Frame} {meth : Method} {c : Code} (S : SB X 1 p s m args meth c cX10_stepsOn 7 (some .int) RX10) {M : Mm} {N : Mm} {r : Int32} {v1 : Int32} {v2 : Int32} {v3 : Int32} {v4 : Int32} {x : (Mm × Int32) ⊕ Mm}  (he : f_X10_stepsOn_L91 M v1 v2 v3 v4 = some x) (hc : ∀ b, x = .inl b → Z X 1 p l e rm_X10_stepsOn s m args below meth c 0 0 (MQ below (QI X 1 r N s.heap.size) args s 0 0 (AA X 1 s.heap.size)) 7 b.1 91 [(0, .ref (X.2.2 200)), (1, .int v1), (2, .int v2), (3, .int v3), (4, .int b.2)] []) (hx : ∀ b, x = .inr b → Z X 1 p l e rm_X10_stepsOn s m args below meth c 0 0 (MQ below (QI X 1 r N s.heap.size) args s 0 0 (AA X 1 s.heap.size)) 7 b 290 [(0, .ref (X.2.2 200)), (1, .int v1), (2, .int v2), (3, .int v3)] []) : Z X 1 p l e rm_X10_stepsOn s m args below meth c 0 0 (MQ below (QI X 1 r N s.heap.size) args s 0 0 (AA X 1 s.heap.size)) 7 M 91 [(0, .ref (X.2.2 200)), (1, .int v1), (2, .int v2), (3, .int v3), (4, .int v4)] [] := by
  unfold f_X10_stepsOn_L91 at he
  refine z_iload S dX10_stepsOn_91 4 rfl ?_
  refine z_aload_n S dX10_stepsOn_93 rfl 0 rfl ?_
  refine z_getF (j := 201) S fo_RX10_7 1 rfl rfl ok_200 dX10_stepsOn_94 ?_
  refine z_iconst (v := 3) S dX10_stepsOn_97 (by decide) ?_
  refine z_iald S ok_201 rfl he dX10_stepsOn_98 (fun he => ?_)
  refine z_icmp_ge (tgt := 290) S he dX10_stepsOn_99 (by decide) (fun he => ?_) (fun he => ?_)
  · refine z_lv (ks := [0, 1, 2, 3]) rfl ?_
    exact hx _ (Option.some.inj he).symm
  · refine z_aload_n S dX10_stepsOn_102 rfl 0 rfl ?_
    refine z_getF (j := 212) S fo_RX10_47 12 rfl rfl ok_200 dX10_stepsOn_103 ?_
    refine z_iload_n S dX10_stepsOn_106 rfl 3 rfl ?_
    refine z_iald S ok_212 rfl he dX10_stepsOn_107 (fun he => ?_)
    refine z_iload S dX10_stepsOn_108 4 rfl ?_
    refine z_cSI (As := [.int (gA M 212 v3), .int v4]) S cs_RX10_117 (K_X10_isOf  rfl) ⟨rfl, rfl⟩ ⟨Nat.le_of_ble_eq_true rfl, Nat.le_of_ble_eq_true rfl⟩ ⟨Nat.le_refl _, Nat.le_refl _⟩ rfl rfl (Nat.le_of_ble_eq_true rfl) dX10_stepsOn_110 ?_
    refine z_ifb_ne (tgt := 119) S he dX10_stepsOn_113 (by decide) (fun he => ?_) (fun he => ?_)
    · refine z_aload_n S dX10_stepsOn_119 rfl 0 rfl ?_
      refine z_getF (j := 207) S fo_RX10_32 7 rfl rfl ok_200 dX10_stepsOn_120 ?_
      refine z_bipush (v := 10) S dX10_stepsOn_123 (by decide) ?_
      refine z_iload S dX10_stepsOn_125 4 rfl ?_
      refine z_imul S dX10_stepsOn_127 ?_
      refine z_iload_n S dX10_stepsOn_128 rfl 3 rfl ?_
      refine z_iadd S dX10_stepsOn_129 ?_
      refine z_iald S ok_207 rfl he dX10_stepsOn_130 (fun he => ?_)
      obtain ⟨x4, ex4, he⟩ := bnd he
      rw [Option.some.inj ex4]
      refine z_istore (lv' := [(0, .ref (X.2.2 200)), (1, .int v1), (2, .int v2), (3, .int v3), (4, .int v4), (5, .int x4)]) S [1, 2, 3, 4, 5, 0] dX10_stepsOn_131 (by decide) rfl ?_
      refine z_aload_n S dX10_stepsOn_133 rfl 0 rfl ?_
      refine z_getF (j := 211) S fo_RX10_44 11 rfl rfl ok_200 dX10_stepsOn_134 ?_
      refine z_iload_n S dX10_stepsOn_137 rfl 3 rfl ?_
      refine z_iald S ok_211 rfl he dX10_stepsOn_138 (fun he => ?_)
      refine z_iload S dX10_stepsOn_139 4 rfl ?_
      refine z_icmp_eq (tgt := 208) S he dX10_stepsOn_141 (by decide) (fun he => ?_) (fun he => ?_)
      · exact p_X10_stepsOn_J91_208 S  he hc hx
      · refine z_aload_n S dX10_stepsOn_144 rfl 0 rfl ?_
        refine z_getF (j := 214) S fo_RX10_53 14 rfl rfl ok_200 dX10_stepsOn_145 ?_
        refine z_bipush (v := 9) S dX10_stepsOn_148 (by decide) ?_
        refine z_iload_n S dX10_stepsOn_150 rfl 3 rfl ?_
        refine z_iadd S dX10_stepsOn_151 ?_
        refine z_iald S ok_214 rfl he dX10_stepsOn_152 (fun he => ?_)
        refine z_ldcw (v := (-2000000000)) S kc_RX10_330 dX10_stepsOn_153 ?_
        refine z_icmp_le (tgt := 208) S he dX10_stepsOn_156 (by decide) (fun he => ?_) (fun he => ?_)
        · exact p_X10_stepsOn_J91_208 S  he hc hx
        · refine z_aload_n S dX10_stepsOn_159 rfl 0 rfl ?_
          refine z_getF (j := 214) S fo_RX10_53 14 rfl rfl ok_200 dX10_stepsOn_160 ?_
          refine z_bipush (v := 9) S dX10_stepsOn_163 (by decide) ?_
          refine z_iload_n S dX10_stepsOn_165 rfl 3 rfl ?_
          refine z_iadd S dX10_stepsOn_166 ?_
          refine z_iald S ok_214 rfl he dX10_stepsOn_167 (fun he => ?_)
          refine z_iload S dX10_stepsOn_168 5 rfl ?_
          refine z_iadd S dX10_stepsOn_170 ?_
          refine z_aload_n S dX10_stepsOn_171 rfl 0 rfl ?_
          refine z_getF (j := 214) S fo_RX10_53 14 rfl rfl ok_200 dX10_stepsOn_172 ?_
          refine z_iload S dX10_stepsOn_175 4 rfl ?_
          refine z_iald S ok_214 rfl he dX10_stepsOn_177 (fun he => ?_)
          refine z_icmp_le (tgt := 208) S he dX10_stepsOn_178 (by decide) (fun he => ?_) (fun he => ?_)
          · exact p_X10_stepsOn_J91_208 S  he hc hx
          · refine z_aload_n S dX10_stepsOn_181 rfl 0 rfl ?_
            refine z_getF (j := 214) S fo_RX10_53 14 rfl rfl ok_200 dX10_stepsOn_182 ?_
            refine z_iload S dX10_stepsOn_185 4 rfl ?_
            refine z_aload_n S dX10_stepsOn_187 rfl 0 rfl ?_
            refine z_getF (j := 214) S fo_RX10_53 14 rfl rfl ok_200 dX10_stepsOn_188 ?_
            refine z_bipush (v := 9) S dX10_stepsOn_191 (by decide) ?_
            refine z_iload_n S dX10_stepsOn_193 rfl 3 rfl ?_
            refine z_iadd S dX10_stepsOn_194 ?_
            refine z_iald S ok_214 rfl he dX10_stepsOn_195 (fun he => ?_)
            refine z_iload S dX10_stepsOn_196 5 rfl ?_
            refine z_iadd S dX10_stepsOn_198 ?_
            refine z_iastb S ok_214 rfl he dX10_stepsOn_199 (fun M7 he => ?_)
            refine z_aload_n S dX10_stepsOn_200 rfl 0 rfl ?_
            refine z_getF (j := 215) S fo_RX10_56 15 rfl rfl ok_200 dX10_stepsOn_201 ?_
            refine z_iload S dX10_stepsOn_204 4 rfl ?_
            refine z_iload_n S dX10_stepsOn_206 rfl 3 rfl ?_
            refine z_iastb S ok_215 rfl he dX10_stepsOn_207 (fun M8 he => ?_)
            exact p_X10_stepsOn_J91_208 S  he hc hx
    · refine z_goto (tgt := 284) S dX10_stepsOn_116 (by decide) ?_
      refine z_iinc (v := (v4 + 1)) (lv' := [(0, .ref (X.2.2 200)), (1, .int v1), (2, .int v2), (3, .int v3), (4, .int (v4 + 1))]) S [1, 2, 3, 4, 0] 4 dX10_stepsOn_284 rfl (by rfl) (by decide) rfl ?_
      refine z_goto (tgt := 91) S dX10_stepsOn_287 (by decide) ?_
      refine z_lv (ks := [0, 1, 2, 3, 4]) rfl ?_
      exact hc _ (Option.some.inj he).symm
set_option maxRecDepth 100000 in
set_option maxHeartbeats 4000000 in
theorem p_X10_stepsOn_L78 {X : Cx} {p : Program} {l : Launch} {e : Env} {s : State} {m : MethodId} {args : Array Value} {below : List Frame} {meth : Method} {c : Code} (S : SB X 1 p s m args meth c cX10_stepsOn 7 (some .int) RX10) {M : Mm} {N : Mm} {r : Int32} {v1 : Int32} {v2 : Int32} {v3 : Int32} {x : (Mm × Int32) ⊕ Mm}  (he : f_X10_stepsOn_L78 M v1 v2 v3 = some x) (hc : ∀ b, x = .inl b → Z X 1 p l e rm_X10_stepsOn s m args below meth c 0 0 (MQ below (QI X 1 r N s.heap.size) args s 0 0 (AA X 1 s.heap.size)) 7 b.1 78 [(0, .ref (X.2.2 200)), (1, .int v1), (2, .int v2), (3, .int b.2)] []) (hx : ∀ b, x = .inr b → Z X 1 p l e rm_X10_stepsOn s m args below meth c 0 0 (MQ below (QI X 1 r N s.heap.size) args s 0 0 (AA X 1 s.heap.size)) 7 b 296 [(0, .ref (X.2.2 200)), (1, .int v1), (2, .int v2)] []) : Z X 1 p l e rm_X10_stepsOn s m args below meth c 0 0 (MQ below (QI X 1 r N s.heap.size) args s 0 0 (AA X 1 s.heap.size)) 7 M 78 [(0, .ref (X.2.2 200)), (1, .int v1), (2, .int v2), (3, .int v3)] [] := by
  unfold f_X10_stepsOn_L78 at he
  refine z_iload_n S dX10_stepsOn_78 rfl 3 rfl ?_
  refine z_aload_n S dX10_stepsOn_79 rfl 0 rfl ?_
  refine z_getF (j := 201) S fo_RX10_7 1 rfl rfl ok_200 dX10_stepsOn_80 ?_
  refine z_iconst (v := 4) S dX10_stepsOn_83 (by decide) ?_
  refine z_iald S ok_201 rfl he dX10_stepsOn_84 (fun he => ?_)
  refine z_icmp_ge (tgt := 296) S he dX10_stepsOn_85 (by decide) (fun he => ?_) (fun he => ?_)
  · refine z_lv (ks := [0, 1, 2]) rfl ?_
    exact hx _ (Option.some.inj he).symm
  · refine z_iconst (v := 0) S dX10_stepsOn_88 (by decide) ?_
    refine z_istore (lv' := [(0, .ref (X.2.2 200)), (1, .int v1), (2, .int v2), (3, .int v3), (4, .int 0)]) S [1, 2, 3, 4, 0] dX10_stepsOn_89 (by decide) rfl ?_
    obtain ⟨e_9, hl, he⟩ := bnd he
    have hX : Z X 1 p l e rm_X10_stepsOn s m args below meth c 0 0 (MQ below (QI X 1 r N s.heap.size) args s 0 0 (AA X 1 s.heap.size)) 7 e_9 290 [(0, .ref (X.2.2 200)), (1, .int v1), (2, .int v2), (3, .int v3)] [] := by
      refine z_iinc (v := (v3 + 1)) (lv' := [(0, .ref (X.2.2 200)), (1, .int v1), (2, .int v2), (3, .int (v3 + 1))]) S [1, 2, 3, 0] 3 dX10_stepsOn_290 rfl (by rfl) (by decide) rfl ?_
      refine z_goto (tgt := 78) S dX10_stepsOn_293 (by decide) ?_
      refine z_lv (ks := [0, 1, 2, 3]) rfl ?_
      exact hc _ (Option.some.inj he).symm
    exact loopZ (Zh := (fun a_9 => Z X 1 p l e rm_X10_stepsOn s m args below meth c 0 0 (MQ below (QI X 1 r N s.heap.size) args s 0 0 (AA X 1 s.heap.size)) 7 a_9.1 91 [(0, .ref (X.2.2 200)), (1, .int v1), (2, .int v2), (3, .int v3), (4, .int a_9.2)] [])) (fun a_9 x hb hc hr => p_X10_stepsOn_L91 S  hb hc (fun b hxe => by rw [hr b hxe]; exact hX)) FU _ hl
set_option maxRecDepth 100000 in
set_option maxHeartbeats 4000000 in
theorem p_X10_stepsOn_L70 {X : Cx} {p : Program} {l : Launch} {e : Env} {s : State} {m : MethodId} {args : Array Value} {below : List Frame} {meth : Method} {c : Code} (S : SB X 1 p s m args meth c cX10_stepsOn 7 (some .int) RX10) {M : Mm} {N : Mm} {r : Int32} {v1 : Int32} {v2 : Int32} {x : (Mm × Int32) ⊕ Mm}  (he : f_X10_stepsOn_L70 M v1 v2 = some x) (hc : ∀ b, x = .inl b → Z X 1 p l e rm_X10_stepsOn s m args below meth c 0 0 (MQ below (QI X 1 r N s.heap.size) args s 0 0 (AA X 1 s.heap.size)) 7 b.1 70 [(0, .ref (X.2.2 200)), (1, .int v1), (2, .int b.2)] []) (hx : ∀ b, x = .inr b → Z X 1 p l e rm_X10_stepsOn s m args below meth c 0 0 (MQ below (QI X 1 r N s.heap.size) args s 0 0 (AA X 1 s.heap.size)) 7 b 302 [(0, .ref (X.2.2 200))] []) : Z X 1 p l e rm_X10_stepsOn s m args below meth c 0 0 (MQ below (QI X 1 r N s.heap.size) args s 0 0 (AA X 1 s.heap.size)) 7 M 70 [(0, .ref (X.2.2 200)), (1, .int v1), (2, .int v2)] [] := by
  unfold f_X10_stepsOn_L70 at he
  refine z_iload_n S dX10_stepsOn_70 rfl 2 rfl ?_
  refine z_bipush (v := 19) S dX10_stepsOn_71 (by decide) ?_
  refine z_icmp_ge (tgt := 302) S he dX10_stepsOn_73 (by decide) (fun he => ?_) (fun he => ?_)
  · refine z_lv (ks := [0]) rfl ?_
    exact hx _ (Option.some.inj he).symm
  · refine z_iload_n S dX10_stepsOn_76 rfl 1 rfl ?_
    refine z_istore_n (lv' := [(0, .ref (X.2.2 200)), (1, .int v1), (2, .int v2), (3, .int v1)]) S [1, 2, 3, 0] dX10_stepsOn_77 rfl (by decide) rfl ?_
    obtain ⟨e_10, hl, he⟩ := bnd he
    have hX : Z X 1 p l e rm_X10_stepsOn s m args below meth c 0 0 (MQ below (QI X 1 r N s.heap.size) args s 0 0 (AA X 1 s.heap.size)) 7 e_10 296 [(0, .ref (X.2.2 200)), (1, .int v1), (2, .int v2)] [] := by
      refine z_iinc (v := (v2 + 1)) (lv' := [(0, .ref (X.2.2 200)), (1, .int v1), (2, .int (v2 + 1))]) S [1, 2, 0] 2 dX10_stepsOn_296 rfl (by rfl) (by decide) rfl ?_
      refine z_goto (tgt := 70) S dX10_stepsOn_299 (by decide) ?_
      refine z_lv (ks := [0, 1, 2]) rfl ?_
      exact hc _ (Option.some.inj he).symm
    exact loopZ (Zh := (fun a_10 => Z X 1 p l e rm_X10_stepsOn s m args below meth c 0 0 (MQ below (QI X 1 r N s.heap.size) args s 0 0 (AA X 1 s.heap.size)) 7 a_10.1 78 [(0, .ref (X.2.2 200)), (1, .int v1), (2, .int v2), (3, .int a_10.2)] [])) (fun a_10 x hb hc hr => p_X10_stepsOn_L78 S  hb hc (fun b hxe => by rw [hr b hxe]; exact hX)) FU _ hl
set_option maxRecDepth 100000 in
set_option maxHeartbeats 4000000 in
theorem p_X10_stepsOn_L306 {X : Cx} {p : Program} {l : Launch} {e : Env} {s : State} {m : MethodId} {args : Array Value} {below : List Frame} {meth : Method} {c : Code} (S : SB X 1 p s m args meth c cX10_stepsOn 7 (some .int) RX10) {M : Mm} {N : Mm} {r : Int32} {v2 : Int32} {v3 : Int32} {x : (Int32 × Int32) ⊕ Int32}  (he : f_X10_stepsOn_L306 M v2 v3 = some x) (hc : ∀ b, x = .inl b → Z X 1 p l e rm_X10_stepsOn s m args below meth c 0 0 (MQ below (QI X 1 r N s.heap.size) args s 0 0 (AA X 1 s.heap.size)) 7 M 306 [(0, .ref (X.2.2 200)), (2, .int b.1), (3, .int b.2)] []) (hx : ∀ b, x = .inr b → Z X 1 p l e rm_X10_stepsOn s m args below meth c 0 0 (MQ below (QI X 1 r N s.heap.size) args s 0 0 (AA X 1 s.heap.size)) 7 M 368 [(0, .ref (X.2.2 200)), (2, .int b)] []) : Z X 1 p l e rm_X10_stepsOn s m args below meth c 0 0 (MQ below (QI X 1 r N s.heap.size) args s 0 0 (AA X 1 s.heap.size)) 7 M 306 [(0, .ref (X.2.2 200)), (2, .int v2), (3, .int v3)] [] := by
  unfold f_X10_stepsOn_L306 at he
  refine z_iload_n S dX10_stepsOn_306 rfl 2 rfl ?_
  refine z_aload_n S dX10_stepsOn_307 rfl 0 rfl ?_
  refine z_getF (j := 201) S fo_RX10_7 1 rfl rfl ok_200 dX10_stepsOn_308 ?_
  refine z_iconst (v := 3) S dX10_stepsOn_311 (by decide) ?_
  refine z_iald S ok_201 rfl he dX10_stepsOn_312 (fun he => ?_)
  refine z_icmp_ge (tgt := 368) S he dX10_stepsOn_313 (by decide) (fun he => ?_) (fun he => ?_)
  · refine z_lv (ks := [0, 1]) rfl ?_
    exact hx _ (Option.some.inj he).symm
  · refine z_aload_n S dX10_stepsOn_316 rfl 0 rfl ?_
    refine z_getF (j := 214) S fo_RX10_53 14 rfl rfl ok_200 dX10_stepsOn_317 ?_
    refine z_iload_n S dX10_stepsOn_320 rfl 2 rfl ?_
    refine z_iald S ok_214 rfl he dX10_stepsOn_321 (fun he => ?_)
    refine z_if_le (tgt := 362) S he dX10_stepsOn_322 (by decide) (fun he => ?_) (fun he => ?_)
    · refine z_iinc (v := (v3 + 1)) (lv' := [(0, .ref (X.2.2 200)), (2, .int v2), (3, .int (v3 + 1))]) S [1, 2, 0] 2 dX10_stepsOn_362 rfl (by rfl) (by decide) rfl ?_
      refine z_goto (tgt := 306) S dX10_stepsOn_365 (by decide) ?_
      refine z_lv (ks := [0, 1, 2]) rfl ?_
      exact hc _ (Option.some.inj he).symm
    · refine z_aload_n S dX10_stepsOn_325 rfl 0 rfl ?_
      refine z_getF (j := 210) S fo_RX10_41 10 rfl rfl ok_200 dX10_stepsOn_326 ?_
      refine z_iload_n S dX10_stepsOn_329 rfl 2 rfl ?_
      refine z_iald S ok_210 rfl he dX10_stepsOn_330 (fun he => ?_)
      refine z_aload_n S dX10_stepsOn_331 rfl 0 rfl ?_
      refine z_getF (j := 213) S fo_RX10_50 13 rfl rfl ok_200 dX10_stepsOn_332 ?_
      refine z_iload_n S dX10_stepsOn_335 rfl 2 rfl ?_
      refine z_iald S ok_213 rfl he dX10_stepsOn_336 (fun he => ?_)
      refine z_icmp_ge (tgt := 362) S he dX10_stepsOn_337 (by decide) (fun he => ?_) (fun he => ?_)
      · refine z_iinc (v := (v3 + 1)) (lv' := [(0, .ref (X.2.2 200)), (2, .int v2), (3, .int (v3 + 1))]) S [1, 2, 0] 2 dX10_stepsOn_362 rfl (by rfl) (by decide) rfl ?_
        refine z_goto (tgt := 306) S dX10_stepsOn_365 (by decide) ?_
        refine z_lv (ks := [0, 1, 2]) rfl ?_
        exact hc _ (Option.some.inj he).symm
      · refine z_iload_n S dX10_stepsOn_340 rfl 1 rfl ?_
        refine z_iconst (v := (-1)) S dX10_stepsOn_341 (by decide) ?_
        refine z_icmp_eq (tgt := 360) S he dX10_stepsOn_342 (by decide) (fun he => ?_) (fun he => ?_)
        · refine z_iload_n S dX10_stepsOn_360 rfl 2 rfl ?_
          refine z_istore_n (lv' := [(0, .ref (X.2.2 200)), (2, .int v3), (3, .int v3)]) S [1, 0, 2] dX10_stepsOn_361 rfl (by decide) rfl ?_
          refine z_iinc (v := (v3 + 1)) (lv' := [(0, .ref (X.2.2 200)), (2, .int v3), (3, .int (v3 + 1))]) S [1, 2, 0] 2 dX10_stepsOn_362 rfl (by rfl) (by decide) rfl ?_
          refine z_goto (tgt := 306) S dX10_stepsOn_365 (by decide) ?_
          refine z_lv (ks := [0, 1, 2]) rfl ?_
          exact hc _ (Option.some.inj he).symm
        · refine z_aload_n S dX10_stepsOn_345 rfl 0 rfl ?_
          refine z_getF (j := 214) S fo_RX10_53 14 rfl rfl ok_200 dX10_stepsOn_346 ?_
          refine z_iload_n S dX10_stepsOn_349 rfl 2 rfl ?_
          refine z_iald S ok_214 rfl he dX10_stepsOn_350 (fun he => ?_)
          refine z_aload_n S dX10_stepsOn_351 rfl 0 rfl ?_
          refine z_getF (j := 214) S fo_RX10_53 14 rfl rfl ok_200 dX10_stepsOn_352 ?_
          refine z_iload_n S dX10_stepsOn_355 rfl 1 rfl ?_
          refine z_iald S ok_214 rfl he dX10_stepsOn_356 (fun he => ?_)
          refine z_icmp_le (tgt := 362) S he dX10_stepsOn_357 (by decide) (fun he => ?_) (fun he => ?_)
          · refine z_iinc (v := (v3 + 1)) (lv' := [(0, .ref (X.2.2 200)), (2, .int v2), (3, .int (v3 + 1))]) S [1, 2, 0] 2 dX10_stepsOn_362 rfl (by rfl) (by decide) rfl ?_
            refine z_goto (tgt := 306) S dX10_stepsOn_365 (by decide) ?_
            refine z_lv (ks := [0, 1, 2]) rfl ?_
            exact hc _ (Option.some.inj he).symm
          · refine z_iload_n S dX10_stepsOn_360 rfl 2 rfl ?_
            refine z_istore_n (lv' := [(0, .ref (X.2.2 200)), (2, .int v3), (3, .int v3)]) S [1, 0, 2] dX10_stepsOn_361 rfl (by decide) rfl ?_
            refine z_iinc (v := (v3 + 1)) (lv' := [(0, .ref (X.2.2 200)), (2, .int v3), (3, .int (v3 + 1))]) S [1, 2, 0] 2 dX10_stepsOn_362 rfl (by rfl) (by decide) rfl ?_
            refine z_goto (tgt := 306) S dX10_stepsOn_365 (by decide) ?_
            refine z_lv (ks := [0, 1, 2]) rfl ?_
            exact hc _ (Option.some.inj he).symm
set_option maxRecDepth 100000 in
set_option maxHeartbeats 4000000 in
theorem p_X10_stepsOn_L395 {X : Cx} {p : Program} {l : Launch} {e : Env} {s : State} {m : MethodId} {args : Array Value} {below : List Frame} {meth : Method} {c : Code} (S : SB X 1 p s m args meth c cX10_stepsOn 7 (some .int) RX10) {M : Mm} {N : Mm} {r : Int32} {v3 : Int32} {v4 : Int32} {x : (Mm × Int32) ⊕ Mm}  (he : f_X10_stepsOn_L395 M v3 v4 = some x) (hc : ∀ b, x = .inl b → Z X 1 p l e rm_X10_stepsOn s m args below meth c 0 0 (MQ below (QI X 1 r N s.heap.size) args s 0 0 (AA X 1 s.heap.size)) 7 b.1 395 [(0, .ref (X.2.2 200)), (3, .int v3), (4, .int b.2)] []) (hx : ∀ b, x = .inr b → Z X 1 p l e rm_X10_stepsOn s m args below meth c 0 0 (MQ below (QI X 1 r N s.heap.size) args s 0 0 (AA X 1 s.heap.size)) 7 b 435 [(3, .int v3)] []) : Z X 1 p l e rm_X10_stepsOn s m args below meth c 0 0 (MQ below (QI X 1 r N s.heap.size) args s 0 0 (AA X 1 s.heap.size)) 7 M 395 [(0, .ref (X.2.2 200)), (3, .int v3), (4, .int v4)] [] := by
  unfold f_X10_stepsOn_L395 at he
  refine z_iload S dX10_stepsOn_395 2 rfl ?_
  refine z_iconst (v := (-1)) S dX10_stepsOn_397 (by decide) ?_
  refine z_icmp_eq (tgt := 435) S he dX10_stepsOn_398 (by decide) (fun he => ?_) (fun he => ?_)
  · refine z_lv (ks := [1]) rfl ?_
    exact hx _ (Option.some.inj he).symm
  · refine z_aload_n S dX10_stepsOn_401 rfl 0 rfl ?_
    refine z_getF (j := 215) S fo_RX10_56 15 rfl rfl ok_200 dX10_stepsOn_402 ?_
    refine z_iload S dX10_stepsOn_405 2 rfl ?_
    refine z_iald S ok_215 rfl he dX10_stepsOn_407 (fun he => ?_)
    refine z_istore (lv' := [(0, .ref (X.2.2 200)), (3, .int v3), (4, .int v4), (5, .int (gA M 215 v4))]) S [1, 2, 3, 0] dX10_stepsOn_408 (by decide) rfl ?_
    refine z_aload_n S dX10_stepsOn_410 rfl 0 rfl ?_
    refine z_getF (j := 211) S fo_RX10_44 11 rfl rfl ok_200 dX10_stepsOn_411 ?_
    refine z_iload S dX10_stepsOn_414 3 rfl ?_
    refine z_iald S ok_211 rfl he dX10_stepsOn_416 (fun he => ?_)
    refine z_istore (lv' := [(0, .ref (X.2.2 200)), (3, .int v3), (4, .int v4), (5, .int (gA M 215 v4)), (6, .int (gA M 211 (gA M 215 v4)))]) S [1, 2, 3, 4, 0] dX10_stepsOn_417 (by decide) rfl ?_
    refine z_aload_n S dX10_stepsOn_419 rfl 0 rfl ?_
    refine z_getF (j := 211) S fo_RX10_44 11 rfl rfl ok_200 dX10_stepsOn_420 ?_
    refine z_iload S dX10_stepsOn_423 3 rfl ?_
    refine z_iload S dX10_stepsOn_425 2 rfl ?_
    refine z_iastb S ok_211 rfl he dX10_stepsOn_427 (fun M14 he => ?_)
    refine z_iload S dX10_stepsOn_428 4 rfl ?_
    refine z_istore (lv' := [(0, .ref (X.2.2 200)), (3, .int v3), (4, .int (gA M 211 (gA M 215 v4)))]) S [1, 2, 0] dX10_stepsOn_430 (by decide) rfl ?_
    refine z_goto (tgt := 395) S dX10_stepsOn_432 (by decide) ?_
    refine z_lv (ks := [0, 1, 2]) rfl ?_
    exact hc _ (Option.some.inj he).symm
set_option maxRecDepth 100000 in
set_option maxHeartbeats 4000000 in
theorem K_X10_stepsOn {X : Cx} {l : Launch} {M : Mm} {a1 : Int32} {r : Int32} {N : Mm}  (he : f_X10_stepsOn M a1 = some (r, N)) : KI X 1 l yX10_stepsOn (wz yX10_stepsOn cX10_stepsOn 7 (some .int)) rm_X10_stepsOn [.ref (X.2.2 200), .int a1] M r N := by
  intro sz
  refine K_of (Qc := (fun sz => QI X 1 r N sz)) (own := RX10) (lv0 := [(0, .ref (X.2.2 200)), (1, .int a1)]) (by decide +kernel) rfl (Nat.le_of_ble_eq_true rfl) rfl (fun p e s m args below meth c S => ?_) sz
  · unfold f_X10_stepsOn at he
    refine z_iconst (v := 0) S dX10_stepsOn_0 (by decide) ?_
    refine z_istore_n (lv' := [(0, .ref (X.2.2 200)), (1, .int a1), (2, .int 0)]) S [1, 2, 0] dX10_stepsOn_1 rfl (by decide) rfl ?_
    obtain ⟨e_3, hl, he⟩ := bnd he
    have hX : Z X 1 p l e rm_X10_stepsOn s m args below meth c 0 0 (MQ below (QI X 1 r N s.heap.size) args s 0 0 (AA X 1 s.heap.size)) 7 e_3 68 [(0, .ref (X.2.2 200)), (1, .int a1)] [] := by
      refine z_iconst (v := 0) S dX10_stepsOn_68 (by decide) ?_
      refine z_istore_n (lv' := [(0, .ref (X.2.2 200)), (1, .int a1), (2, .int 0)]) S [1, 2, 0] dX10_stepsOn_69 rfl (by decide) rfl ?_
      obtain ⟨e_11, hl, he⟩ := bnd he
      have hX : Z X 1 p l e rm_X10_stepsOn s m args below meth c 0 0 (MQ below (QI X 1 r N s.heap.size) args s 0 0 (AA X 1 s.heap.size)) 7 e_11 302 [(0, .ref (X.2.2 200))] [] := by
        refine z_iconst (v := (-1)) S dX10_stepsOn_302 (by decide) ?_
        refine z_istore_n (lv' := [(0, .ref (X.2.2 200)), (2, .int (-1))]) S [1, 0] dX10_stepsOn_303 rfl (by decide) rfl ?_
        refine z_iconst (v := 0) S dX10_stepsOn_304 (by decide) ?_
        refine z_istore_n (lv' := [(0, .ref (X.2.2 200)), (2, .int (-1)), (3, .int 0)]) S [1, 2, 0] dX10_stepsOn_305 rfl (by decide) rfl ?_
        obtain ⟨e_12, hl, he⟩ := bnd he
        have hX : Z X 1 p l e rm_X10_stepsOn s m args below meth c 0 0 (MQ below (QI X 1 r N s.heap.size) args s 0 0 (AA X 1 s.heap.size)) 7 e_11 368 [(0, .ref (X.2.2 200)), (2, .int e_12)] [] := by
          refine z_iload_n S dX10_stepsOn_368 rfl 1 rfl ?_
          refine z_iconst (v := (-1)) S dX10_stepsOn_369 (by decide) ?_
          refine z_icmp_ne (tgt := 375) S he dX10_stepsOn_370 (by decide) (fun he => ?_) (fun he => ?_)
          · refine z_aload_n S dX10_stepsOn_375 rfl 0 rfl ?_
            refine z_getF (j := 214) S fo_RX10_53 14 rfl rfl ok_200 dX10_stepsOn_376 ?_
            refine z_iload_n S dX10_stepsOn_379 rfl 1 rfl ?_
            refine z_iald S ok_214 rfl he dX10_stepsOn_380 (fun he => ?_)
            refine z_istore_n (lv' := [(0, .ref (X.2.2 200)), (2, .int e_12), (3, .int (gA e_11 214 e_12))]) S [1, 2, 0] dX10_stepsOn_381 rfl (by decide) rfl ?_
            refine z_aload_n S dX10_stepsOn_382 rfl 0 rfl ?_
            refine z_getF (j := 210) S fo_RX10_41 10 rfl rfl ok_200 dX10_stepsOn_383 ?_
            refine z_iload_n S dX10_stepsOn_386 rfl 1 rfl ?_
            refine z_dup2 S dX10_stepsOn_387 rfl rfl ?_
            refine z_iald S ok_210 rfl he dX10_stepsOn_388 (fun he => ?_)
            refine z_iconst (v := 1) S dX10_stepsOn_389 (by decide) ?_
            refine z_iadd S dX10_stepsOn_390 ?_
            refine z_iastb S ok_210 rfl he dX10_stepsOn_391 (fun M13 he => ?_)
            refine z_iload_n S dX10_stepsOn_392 rfl 1 rfl ?_
            refine z_istore (lv' := [(0, .ref (X.2.2 200)), (3, .int (gA e_11 214 e_12)), (4, .int e_12)]) S [1, 3, 0] dX10_stepsOn_393 (by decide) rfl ?_
            obtain ⟨e_15, hl, he⟩ := bnd he
            have hX : Z X 1 p l e rm_X10_stepsOn s m args below meth c 0 0 (MQ below (QI X 1 r N s.heap.size) args s 0 0 (AA X 1 s.heap.size)) 7 e_15 435 [(3, .int (gA e_11 214 e_12))] [] := by
              refine z_iload_n S dX10_stepsOn_435 rfl 0 rfl ?_
              exact z_iret S (Prod.mk.inj (Option.some.inj he)) dX10_stepsOn_436
            exact loopZ (Zh := (fun a_15 => Z X 1 p l e rm_X10_stepsOn s m args below meth c 0 0 (MQ below (QI X 1 r N s.heap.size) args s 0 0 (AA X 1 s.heap.size)) 7 a_15.1 395 [(0, .ref (X.2.2 200)), (3, .int (gA e_11 214 e_12)), (4, .int a_15.2)] [])) (fun a_15 x hb hc hr => p_X10_stepsOn_L395 S  hb hc (fun b hxe => by rw [hr b hxe]; exact hX)) FU _ hl
          · refine z_iconst (v := 0) S dX10_stepsOn_373 (by decide) ?_
            exact z_iret S (Prod.mk.inj (Option.some.inj he)) dX10_stepsOn_374
        exact loopZ (Zh := (fun a_12 => Z X 1 p l e rm_X10_stepsOn s m args below meth c 0 0 (MQ below (QI X 1 r N s.heap.size) args s 0 0 (AA X 1 s.heap.size)) 7 e_11 306 [(0, .ref (X.2.2 200)), (2, .int a_12.1), (3, .int a_12.2)] [])) (fun a_12 x hb hc hr => p_X10_stepsOn_L306 S  hb hc (fun b hxe => by rw [hr b hxe]; exact hX)) FU _ hl
      exact loopZ (Zh := (fun a_11 => Z X 1 p l e rm_X10_stepsOn s m args below meth c 0 0 (MQ below (QI X 1 r N s.heap.size) args s 0 0 (AA X 1 s.heap.size)) 7 a_11.1 70 [(0, .ref (X.2.2 200)), (1, .int a1), (2, .int a_11.2)] [])) (fun a_11 x hb hc hr => p_X10_stepsOn_L70 S  hb hc (fun b hxe => by rw [hr b hxe]; exact hX)) FU _ hl
    exact loopZ (Zh := (fun a_3 => Z X 1 p l e rm_X10_stepsOn s m args below meth c 0 0 (MQ below (QI X 1 r N s.heap.size) args s 0 0 (AA X 1 s.heap.size)) 7 a_3.1 2 [(0, .ref (X.2.2 200)), (1, .int a1), (2, .int a_3.2)] [])) (fun a_3 x hb hc hr => p_X10_stepsOn_L2 S  hb hc (fun b hxe => by rw [hr b hxe]; exact hX)) FU _ hl
set_option maxRecDepth 100000 in
set_option maxHeartbeats 4000000 in
theorem p_X10_dearestFrom_L2 {X : Cx} {p : Program} {l : Launch} {e : Env} {s : State} {m : MethodId} {args : Array Value} {below : List Frame} {meth : Method} {c : Code} (S : SB X 1 p s m args meth c cX10_dearestFrom 4 (some .int) RX10) {M : Mm} {N : Mm} {r : Int32} {v1 : Int32} {v2 : Int32} {x : (Mm × Int32) ⊕ Mm}  (he : f_X10_dearestFrom_L2 M v1 v2 = some x) (hc : ∀ b, x = .inl b → Z X 1 p l e rm_X10_dearestFrom s m args below meth c 0 0 (MQ below (QI X 1 r N s.heap.size) args s 0 0 (AA X 1 s.heap.size)) 4 b.1 2 [(0, .ref (X.2.2 200)), (1, .int v1), (2, .int b.2)] []) (hx : ∀ b, x = .inr b → Z X 1 p l e rm_X10_dearestFrom s m args below meth c 0 0 (MQ below (QI X 1 r N s.heap.size) args s 0 0 (AA X 1 s.heap.size)) 4 b 21 [(0, .ref (X.2.2 200)), (1, .int v1)] []) : Z X 1 p l e rm_X10_dearestFrom s m args below meth c 0 0 (MQ below (QI X 1 r N s.heap.size) args s 0 0 (AA X 1 s.heap.size)) 4 M 2 [(0, .ref (X.2.2 200)), (1, .int v1), (2, .int v2)] [] := by
  unfold f_X10_dearestFrom_L2 at he
  refine z_iload_n S dX10_dearestFrom_2 rfl 2 rfl ?_
  refine z_bipush (v := 10) S dX10_dearestFrom_3 (by decide) ?_
  refine z_icmp_ge (tgt := 21) S he dX10_dearestFrom_5 (by decide) (fun he => ?_) (fun he => ?_)
  · refine z_lv (ks := [0, 1]) rfl ?_
    exact hx _ (Option.some.inj he).symm
  · refine z_aload_n S dX10_dearestFrom_8 rfl 0 rfl ?_
    refine z_getF (j := 211) S fo_RX10_44 11 rfl rfl ok_200 dX10_dearestFrom_9 ?_
    refine z_iload_n S dX10_dearestFrom_12 rfl 2 rfl ?_
    refine z_iconst (v := (-1)) S dX10_dearestFrom_13 (by decide) ?_
    refine z_iastb S ok_211 rfl he dX10_dearestFrom_14 (fun M1 he => ?_)
    refine z_iinc (v := (v2 + 1)) (lv' := [(0, .ref (X.2.2 200)), (1, .int v1), (2, .int (v2 + 1))]) S [1, 2, 0] 2 dX10_dearestFrom_15 rfl (by rfl) (by decide) rfl ?_
    refine z_goto (tgt := 2) S dX10_dearestFrom_18 (by decide) ?_
    refine z_lv (ks := [0, 1, 2]) rfl ?_
    exact hc _ (Option.some.inj he).symm
set_option maxRecDepth 100000 in
set_option maxHeartbeats 4000000 in
theorem p_X10_dearestFrom_L23 {X : Cx} {p : Program} {l : Launch} {e : Env} {s : State} {m : MethodId} {args : Array Value} {below : List Frame} {meth : Method} {c : Code} (S : SB X 1 p s m args meth c cX10_dearestFrom 4 (some .int) RX10) {M : Mm} {N : Mm} {r : Int32} {v1 : Int32} {v2 : Int32} {x : (Mm × Int32) ⊕ Mm}  (he : f_X10_dearestFrom_L23 M v1 v2 = some x) (hc : ∀ b, x = .inl b → Z X 1 p l e rm_X10_dearestFrom s m args below meth c 0 0 (MQ below (QI X 1 r N s.heap.size) args s 0 0 (AA X 1 s.heap.size)) 4 b.1 23 [(0, .ref (X.2.2 200)), (1, .int v1), (2, .int b.2)] []) (hx : ∀ b, x = .inr b → Z X 1 p l e rm_X10_dearestFrom s m args below meth c 0 0 (MQ below (QI X 1 r N s.heap.size) args s 0 0 (AA X 1 s.heap.size)) 4 b 42 [(0, .ref (X.2.2 200)), (1, .int v1)] []) : Z X 1 p l e rm_X10_dearestFrom s m args below meth c 0 0 (MQ below (QI X 1 r N s.heap.size) args s 0 0 (AA X 1 s.heap.size)) 4 M 23 [(0, .ref (X.2.2 200)), (1, .int v1), (2, .int v2)] [] := by
  unfold f_X10_dearestFrom_L23 at he
  refine z_iload_n S dX10_dearestFrom_23 rfl 2 rfl ?_
  refine z_bipush (v := 9) S dX10_dearestFrom_24 (by decide) ?_
  refine z_icmp_ge (tgt := 42) S he dX10_dearestFrom_26 (by decide) (fun he => ?_) (fun he => ?_)
  · refine z_lv (ks := [0, 1]) rfl ?_
    exact hx _ (Option.some.inj he).symm
  · refine z_aload_n S dX10_dearestFrom_29 rfl 0 rfl ?_
    refine z_getF (j := 210) S fo_RX10_41 10 rfl rfl ok_200 dX10_dearestFrom_30 ?_
    refine z_iload_n S dX10_dearestFrom_33 rfl 2 rfl ?_
    refine z_iconst (v := 0) S dX10_dearestFrom_34 (by decide) ?_
    refine z_iastb S ok_210 rfl he dX10_dearestFrom_35 (fun M3 he => ?_)
    refine z_iinc (v := (v2 + 1)) (lv' := [(0, .ref (X.2.2 200)), (1, .int v1), (2, .int (v2 + 1))]) S [1, 2, 0] 2 dX10_dearestFrom_36 rfl (by rfl) (by decide) rfl ?_
    refine z_goto (tgt := 23) S dX10_dearestFrom_39 (by decide) ?_
    refine z_lv (ks := [0, 1, 2]) rfl ?_
    exact hc _ (Option.some.inj he).symm
set_option maxRecDepth 100000 in
set_option maxHeartbeats 4000000 in
theorem p_X10_dearestFrom_L50 {X : Cx} {p : Program} {l : Launch} {e : Env} {s : State} {m : MethodId} {args : Array Value} {below : List Frame} {meth : Method} {c : Code} (S : SB X 1 p s m args meth c cX10_dearestFrom 4 (some .int) RX10) {M : Mm} {N : Mm} {r : Int32} {v1 : Int32} {v2 : Int32} {v3 : Int32} {x : (Mm × Int32 × Int32) ⊕ (Mm × Int32)}  (he : f_X10_dearestFrom_L50 M v1 v2 v3 = some x) (hc : ∀ b, x = .inl b → Z X 1 p l e rm_X10_dearestFrom s m args below meth c 0 0 (MQ below (QI X 1 r N s.heap.size) args s 0 0 (AA X 1 s.heap.size)) 4 b.1 50 [(0, .ref (X.2.2 200)), (1, .int v1), (2, .int b.2.1), (3, .int b.2.2)] []) (hx : ∀ b, x = .inr b → Z X 1 p l e rm_X10_dearestFrom s m args below meth c 0 0 (MQ below (QI X 1 r N s.heap.size) args s 0 0 (AA X 1 s.heap.size)) 4 b.1 67 [(2, .int b.2)] []) : Z X 1 p l e rm_X10_dearestFrom s m args below meth c 0 0 (MQ below (QI X 1 r N s.heap.size) args s 0 0 (AA X 1 s.heap.size)) 4 M 50 [(0, .ref (X.2.2 200)), (1, .int v1), (2, .int v2), (3, .int v3)] [] := by
  unfold f_X10_dearestFrom_L50 at he
  refine z_iload_n S dX10_dearestFrom_50 rfl 3 rfl ?_
  refine z_if_le (tgt := 67) S he dX10_dearestFrom_51 (by decide) (fun he => ?_) (fun he => ?_)
  · refine z_lv (ks := [2]) rfl ?_
    exact hx _ (Option.some.inj he).symm
  · refine z_iload_n S dX10_dearestFrom_54 rfl 2 rfl ?_
    refine z_iload_n S dX10_dearestFrom_55 rfl 3 rfl ?_
    refine z_iadd S dX10_dearestFrom_56 ?_
    refine z_istore_n (lv' := [(0, .ref (X.2.2 200)), (1, .int v1), (2, .int (v2 + v3))]) S [1, 2, 0] dX10_dearestFrom_57 rfl (by decide) rfl ?_
    refine z_aload_n S dX10_dearestFrom_58 rfl 0 rfl ?_
    refine z_iload_n S dX10_dearestFrom_59 rfl 1 rfl ?_
    obtain ⟨⟨r7, M8⟩, h9, he⟩ := bnd he
    dsimp only at he
    refine z_cVI (As := [.int v1]) S cv_RX10_327 (K_X10_stepsOn  h9) ok_200 (by decide) (q := (RX10, TX10, 28)) rfl rfl ⟨rfl, rfl⟩ ⟨Nat.le_of_ble_eq_true rfl, Nat.le_of_ble_eq_true rfl⟩ ⟨Nat.le_refl _, Nat.le_refl _⟩ rfl rfl (Nat.le_of_ble_eq_true rfl) dX10_dearestFrom_60 ?_
    refine z_istore_n (lv' := [(0, .ref (X.2.2 200)), (1, .int v1), (2, .int (v2 + v3)), (3, .int r7)]) S [1, 2, 3, 0] dX10_dearestFrom_63 rfl (by decide) rfl ?_
    refine z_goto (tgt := 50) S dX10_dearestFrom_64 (by decide) ?_
    refine z_lv (ks := [0, 1, 2, 3]) rfl ?_
    exact hc _ (Option.some.inj he).symm
set_option maxRecDepth 100000 in
set_option maxHeartbeats 4000000 in
theorem K_X10_dearestFrom {X : Cx} {l : Launch} {M : Mm} {a1 : Int32} {r : Int32} {N : Mm}  (he : f_X10_dearestFrom M a1 = some (r, N)) : KI X 1 l yX10_dearestFrom (wz yX10_dearestFrom cX10_dearestFrom 4 (some .int)) rm_X10_dearestFrom [.ref (X.2.2 200), .int a1] M r N := by
  intro sz
  refine K_of (Qc := (fun sz => QI X 1 r N sz)) (own := RX10) (lv0 := [(0, .ref (X.2.2 200)), (1, .int a1)]) (by decide +kernel) rfl (Nat.le_of_ble_eq_true rfl) rfl (fun p e s m args below meth c S => ?_) sz
  · unfold f_X10_dearestFrom at he
    refine z_iconst (v := 0) S dX10_dearestFrom_0 (by decide) ?_
    refine z_istore_n (lv' := [(0, .ref (X.2.2 200)), (1, .int a1), (2, .int 0)]) S [1, 2, 0] dX10_dearestFrom_1 rfl (by decide) rfl ?_
    obtain ⟨e_2, hl, he⟩ := bnd he
    have hX : Z X 1 p l e rm_X10_dearestFrom s m args below meth c 0 0 (MQ below (QI X 1 r N s.heap.size) args s 0 0 (AA X 1 s.heap.size)) 4 e_2 21 [(0, .ref (X.2.2 200)), (1, .int a1)] [] := by
      refine z_iconst (v := 0) S dX10_dearestFrom_21 (by decide) ?_
      refine z_istore_n (lv' := [(0, .ref (X.2.2 200)), (1, .int a1), (2, .int 0)]) S [1, 2, 0] dX10_dearestFrom_22 rfl (by decide) rfl ?_
      obtain ⟨e_4, hl, he⟩ := bnd he
      have hX : Z X 1 p l e rm_X10_dearestFrom s m args below meth c 0 0 (MQ below (QI X 1 r N s.heap.size) args s 0 0 (AA X 1 s.heap.size)) 4 e_4 42 [(0, .ref (X.2.2 200)), (1, .int a1)] [] := by
        refine z_iconst (v := 0) S dX10_dearestFrom_42 (by decide) ?_
        refine z_istore_n (lv' := [(0, .ref (X.2.2 200)), (1, .int a1), (2, .int 0)]) S [1, 2, 0] dX10_dearestFrom_43 rfl (by decide) rfl ?_
        refine z_aload_n S dX10_dearestFrom_44 rfl 0 rfl ?_
        refine z_iload_n S dX10_dearestFrom_45 rfl 1 rfl ?_
        obtain ⟨⟨r5, M6⟩, h9, he⟩ := bnd he
        dsimp only at he
        refine z_cVI (As := [.int a1]) S cv_RX10_327 (K_X10_stepsOn  h9) ok_200 (by decide) (q := (RX10, TX10, 28)) rfl rfl ⟨rfl, rfl⟩ ⟨Nat.le_of_ble_eq_true rfl, Nat.le_of_ble_eq_true rfl⟩ ⟨Nat.le_refl _, Nat.le_refl _⟩ rfl rfl (Nat.le_of_ble_eq_true rfl) dX10_dearestFrom_46 ?_
        refine z_istore_n (lv' := [(0, .ref (X.2.2 200)), (1, .int a1), (2, .int 0), (3, .int r5)]) S [1, 2, 3, 0] dX10_dearestFrom_49 rfl (by decide) rfl ?_
        obtain ⟨e_9, hl, he⟩ := bnd he
        have hX : Z X 1 p l e rm_X10_dearestFrom s m args below meth c 0 0 (MQ below (QI X 1 r N s.heap.size) args s 0 0 (AA X 1 s.heap.size)) 4 e_9.1 67 [(2, .int e_9.2)] [] := by
          refine z_iload_n S dX10_dearestFrom_67 rfl 0 rfl ?_
          exact z_iret S (Prod.mk.inj (Option.some.inj he)) dX10_dearestFrom_68
        exact loopZ (Zh := (fun a_9 => Z X 1 p l e rm_X10_dearestFrom s m args below meth c 0 0 (MQ below (QI X 1 r N s.heap.size) args s 0 0 (AA X 1 s.heap.size)) 4 a_9.1 50 [(0, .ref (X.2.2 200)), (1, .int a1), (2, .int a_9.2.1), (3, .int a_9.2.2)] [])) (fun a_9 x hb hc hr => p_X10_dearestFrom_L50 S  hb hc (fun b hxe => by rw [hr b hxe]; exact hX)) FU _ hl
      exact loopZ (Zh := (fun a_4 => Z X 1 p l e rm_X10_dearestFrom s m args below meth c 0 0 (MQ below (QI X 1 r N s.heap.size) args s 0 0 (AA X 1 s.heap.size)) 4 a_4.1 23 [(0, .ref (X.2.2 200)), (1, .int a1), (2, .int a_4.2)] [])) (fun a_4 x hb hc hr => p_X10_dearestFrom_L23 S  hb hc (fun b hxe => by rw [hr b hxe]; exact hX)) FU _ hl
    exact loopZ (Zh := (fun a_2 => Z X 1 p l e rm_X10_dearestFrom s m args below meth c 0 0 (MQ below (QI X 1 r N s.heap.size) args s 0 0 (AA X 1 s.heap.size)) 4 a_2.1 2 [(0, .ref (X.2.2 200)), (1, .int a1), (2, .int a_2.2)] [])) (fun a_2 x hb hc hr => p_X10_dearestFrom_L2 S  hb hc (fun b hxe => by rw [hr b hxe]; exact hX)) FU _ hl
set_option maxRecDepth 100000 in
set_option maxHeartbeats 4000000 in
theorem p_X10_firstFor_J2_75 {X : Cx} {p : Program} {l : Launch} {e : Env} {s : State} {m : MethodId} {args : Array Value} {below : List Frame} {meth : Method} {c : Code} (S : SB X 1 p s m args meth c cX10_firstFor 5 (some .int) RX10) {M : Mm} {N : Mm} {r : Int32} {v1 : Int32} {v2 : Int32} {v3 : Int32} {t0 : Int32} {x : (Mm × Int32) ⊕ ((Int32 × Mm) ⊕ Mm)}  (he : f_X10_firstFor_J2_75 M v1 v2 v3 t0 = some x) (hc : ∀ b, x = .inl b → Z X 1 p l e rm_X10_firstFor s m args below meth c 0 0 (MQ below (QI X 1 r N s.heap.size) args s 0 0 (AA X 1 s.heap.size)) 5 b.1 2 [(0, .ref (X.2.2 200)), (1, .int v1), (2, .int v2), (3, .int b.2)] []) (hx : ∀ b, x = .inr (.inr b) → Z X 1 p l e rm_X10_firstFor s m args below meth c 0 0 (MQ below (QI X 1 r N s.heap.size) args s 0 0 (AA X 1 s.heap.size)) 5 b 100 [] []) (hr : ∀ v, x = .inr (.inl v) → v = (r, N)) : Z X 1 p l e rm_X10_firstFor s m args below meth c 0 0 (MQ below (QI X 1 r N s.heap.size) args s 0 0 (AA X 1 s.heap.size)) 5 M 75 [(0, .ref (X.2.2 200)), (1, .int v1), (2, .int v2), (3, .int v3)] [.int t0] := by
  unfold f_X10_firstFor_J2_75 at he
  refine z_istore (lv' := [(0, .ref (X.2.2 200)), (1, .int v1), (2, .int v2), (3, .int v3), (4, .int t0)]) S [1, 2, 3, 4, 0] dX10_firstFor_75 (by decide) rfl ?_
  refine z_aload_n S dX10_firstFor_77 rfl 0 rfl ?_
  refine z_getF (j := 213) S fo_RX10_50 13 rfl rfl ok_200 dX10_firstFor_78 ?_
  refine z_iload_n S dX10_firstFor_81 rfl 3 rfl ?_
  refine z_dup2 S dX10_firstFor_82 rfl rfl ?_
  refine z_iald S ok_213 rfl he dX10_firstFor_83 (fun he => ?_)
  refine z_iconst (v := 1) S dX10_firstFor_84 (by decide) ?_
  refine z_iadd S dX10_firstFor_85 ?_
  refine z_iastb S ok_213 rfl he dX10_firstFor_86 (fun M4 he => ?_)
  refine z_iload S dX10_firstFor_87 4 rfl ?_
  refine z_if_eq (tgt := 94) S he dX10_firstFor_89 (by decide) (fun he => ?_) (fun he => ?_)
  · refine z_iinc (v := (v3 + 1)) (lv' := [(0, .ref (X.2.2 200)), (1, .int v1), (2, .int v2), (3, .int (v3 + 1)), (4, .int t0)]) S [1, 2, 3, 0, 4] 3 dX10_firstFor_94 rfl (by rfl) (by decide) rfl ?_
    refine z_goto (tgt := 2) S dX10_firstFor_97 (by decide) ?_
    refine z_lv (ks := [0, 1, 2, 3]) rfl ?_
    exact hc _ (Option.some.inj he).symm
  · refine z_iload_n S dX10_firstFor_92 rfl 3 rfl ?_
    exact z_iret S (Prod.mk.inj (hr _ (Option.some.inj he).symm)) dX10_firstFor_93
set_option maxRecDepth 100000 in
set_option maxHeartbeats 4000000 in
theorem p_X10_firstFor_L2 {X : Cx} {p : Program} {l : Launch} {e : Env} {s : State} {m : MethodId} {args : Array Value} {below : List Frame} {meth : Method} {c : Code} (S : SB X 1 p s m args meth c cX10_firstFor 5 (some .int) RX10) {M : Mm} {N : Mm} {r : Int32} {v1 : Int32} {v2 : Int32} {v3 : Int32} {x : (Mm × Int32) ⊕ ((Int32 × Mm) ⊕ Mm)}  (he : f_X10_firstFor_L2 M v1 v2 v3 = some x) (hc : ∀ b, x = .inl b → Z X 1 p l e rm_X10_firstFor s m args below meth c 0 0 (MQ below (QI X 1 r N s.heap.size) args s 0 0 (AA X 1 s.heap.size)) 5 b.1 2 [(0, .ref (X.2.2 200)), (1, .int v1), (2, .int v2), (3, .int b.2)] []) (hx : ∀ b, x = .inr (.inr b) → Z X 1 p l e rm_X10_firstFor s m args below meth c 0 0 (MQ below (QI X 1 r N s.heap.size) args s 0 0 (AA X 1 s.heap.size)) 5 b 100 [] []) (hr : ∀ v, x = .inr (.inl v) → v = (r, N)) : Z X 1 p l e rm_X10_firstFor s m args below meth c 0 0 (MQ below (QI X 1 r N s.heap.size) args s 0 0 (AA X 1 s.heap.size)) 5 M 2 [(0, .ref (X.2.2 200)), (1, .int v1), (2, .int v2), (3, .int v3)] [] := by
  unfold f_X10_firstFor_L2 at he
  refine z_iload_n S dX10_firstFor_2 rfl 3 rfl ?_
  refine z_aload_n S dX10_firstFor_3 rfl 0 rfl ?_
  refine z_getF (j := 201) S fo_RX10_7 1 rfl rfl ok_200 dX10_firstFor_4 ?_
  refine z_iconst (v := 3) S dX10_firstFor_7 (by decide) ?_
  refine z_iald S ok_201 rfl he dX10_firstFor_8 (fun he => ?_)
  refine z_icmp_ge (tgt := 100) S he dX10_firstFor_9 (by decide) (fun he => ?_) (fun he => ?_)
  · refine z_lv (ks := []) rfl ?_
    exact hx _ (Option.some.inj he).symm
  · refine z_aload_n S dX10_firstFor_12 rfl 0 rfl ?_
    refine z_getF (j := 212) S fo_RX10_47 12 rfl rfl ok_200 dX10_firstFor_13 ?_
    refine z_iload_n S dX10_firstFor_16 rfl 1 rfl ?_
    refine z_iald S ok_212 rfl he dX10_firstFor_17 (fun he => ?_)
    refine z_iload_n S dX10_firstFor_18 rfl 3 rfl ?_
    refine z_cSI (As := [.int (gA M 212 v1), .int v3]) S cs_RX10_117 (K_X10_isOf  rfl) ⟨rfl, rfl⟩ ⟨Nat.le_of_ble_eq_true rfl, Nat.le_of_ble_eq_true rfl⟩ ⟨Nat.le_refl _, Nat.le_refl _⟩ rfl rfl (Nat.le_of_ble_eq_true rfl) dX10_firstFor_19 ?_
    refine z_ifb_eq (tgt := 94) S he dX10_firstFor_22 (by decide) (fun he => ?_) (fun he => ?_)
    · refine z_iinc (v := (v3 + 1)) (lv' := [(0, .ref (X.2.2 200)), (1, .int v1), (2, .int v2), (3, .int (v3 + 1))]) S [1, 2, 3, 0] 3 dX10_firstFor_94 rfl (by rfl) (by decide) rfl ?_
      refine z_goto (tgt := 2) S dX10_firstFor_97 (by decide) ?_
      refine z_lv (ks := [0, 1, 2, 3]) rfl ?_
      exact hc _ (Option.some.inj he).symm
    · refine z_aload_n S dX10_firstFor_25 rfl 0 rfl ?_
      refine z_getF (j := 213) S fo_RX10_50 13 rfl rfl ok_200 dX10_firstFor_26 ?_
      refine z_iload_n S dX10_firstFor_29 rfl 3 rfl ?_
      refine z_iald S ok_213 rfl he dX10_firstFor_30 (fun he => ?_)
      refine z_if_ne (tgt := 37) S he dX10_firstFor_31 (by decide) (fun he => ?_) (fun he => ?_)
      · refine z_aload_n S dX10_firstFor_37 rfl 0 rfl ?_
        refine z_getF (j := 213) S fo_RX10_50 13 rfl rfl ok_200 dX10_firstFor_38 ?_
        refine z_iload_n S dX10_firstFor_41 rfl 3 rfl ?_
        refine z_dup2 S dX10_firstFor_42 rfl rfl ?_
        refine z_iald S ok_213 rfl he dX10_firstFor_43 (fun he => ?_)
        refine z_iconst (v := 1) S dX10_firstFor_44 (by decide) ?_
        refine z_isub S dX10_firstFor_45 ?_
        refine z_iastb S ok_213 rfl he dX10_firstFor_46 (fun M1 he => ?_)
        refine z_aload_n S dX10_firstFor_47 rfl 0 rfl ?_
        refine z_iload_n S dX10_firstFor_48 rfl 1 rfl ?_
        refine z_iconst (v := 1) S dX10_firstFor_49 (by decide) ?_
        refine z_iadd S dX10_firstFor_50 ?_
        obtain ⟨⟨r2, M3⟩, h9, he⟩ := bnd he
        dsimp only at he
        refine z_cVI (As := [.int (v1 + 1)]) S cv_RX10_331 (K_X10_dearestFrom  h9) ok_200 (by decide) (q := (RX10, TX10, 28)) rfl rfl ⟨rfl, rfl⟩ ⟨Nat.le_of_ble_eq_true rfl, Nat.le_of_ble_eq_true rfl⟩ ⟨Nat.le_refl _, Nat.le_refl _⟩ rfl rfl (Nat.le_of_ble_eq_true rfl) dX10_firstFor_51 ?_
        refine z_aload_n S dX10_firstFor_54 rfl 0 rfl ?_
        refine z_getF (j := 207) S fo_RX10_32 7 rfl rfl ok_200 dX10_firstFor_55 ?_
        refine z_bipush (v := 10) S dX10_firstFor_58 (by decide) ?_
        refine z_iload_n S dX10_firstFor_60 rfl 3 rfl ?_
        refine z_imul S dX10_firstFor_61 ?_
        refine z_iload_n S dX10_firstFor_62 rfl 1 rfl ?_
        refine z_iadd S dX10_firstFor_63 ?_
        refine z_iald S ok_207 rfl he dX10_firstFor_64 (fun he => ?_)
        refine z_iadd S dX10_firstFor_65 ?_
        refine z_iload_n S dX10_firstFor_66 rfl 2 rfl ?_
        refine z_icmp_ne (tgt := 74) S he dX10_firstFor_67 (by decide) (fun he => ?_) (fun he => ?_)
        · refine z_iconst (v := 0) S dX10_firstFor_74 (by decide) ?_
          exact p_X10_firstFor_J2_75 S  he hc hx hr
        · refine z_iconst (v := 1) S dX10_firstFor_70 (by decide) ?_
          refine z_goto (tgt := 75) S dX10_firstFor_71 (by decide) ?_
          exact p_X10_firstFor_J2_75 S  he hc hx hr
      · refine z_goto (tgt := 94) S dX10_firstFor_34 (by decide) ?_
        refine z_iinc (v := (v3 + 1)) (lv' := [(0, .ref (X.2.2 200)), (1, .int v1), (2, .int v2), (3, .int (v3 + 1))]) S [1, 2, 3, 0] 3 dX10_firstFor_94 rfl (by rfl) (by decide) rfl ?_
        refine z_goto (tgt := 2) S dX10_firstFor_97 (by decide) ?_
        refine z_lv (ks := [0, 1, 2, 3]) rfl ?_
        exact hc _ (Option.some.inj he).symm
set_option maxRecDepth 100000 in
set_option maxHeartbeats 4000000 in
theorem K_X10_firstFor {X : Cx} {l : Launch} {M : Mm} {a1 : Int32} {a2 : Int32} {r : Int32} {N : Mm}  (he : f_X10_firstFor M a1 a2 = some (r, N)) : KI X 1 l yX10_firstFor (wz yX10_firstFor cX10_firstFor 5 (some .int)) rm_X10_firstFor [.ref (X.2.2 200), .int a1, .int a2] M r N := by
  intro sz
  refine K_of (Qc := (fun sz => QI X 1 r N sz)) (own := RX10) (lv0 := [(0, .ref (X.2.2 200)), (1, .int a1), (2, .int a2)]) (by decide +kernel) rfl (Nat.le_of_ble_eq_true rfl) rfl (fun p e s m args below meth c S => ?_) sz
  · unfold f_X10_firstFor at he
    refine z_iconst (v := 0) S dX10_firstFor_0 (by decide) ?_
    refine z_istore_n (lv' := [(0, .ref (X.2.2 200)), (1, .int a1), (2, .int a2), (3, .int 0)]) S [1, 2, 3, 0] dX10_firstFor_1 rfl (by decide) rfl ?_
    obtain ⟨r9, hl, hr1, hr2⟩ := bndS he
    have hX : ∀ e_5, r9 = .inr e_5 → Z X 1 p l e rm_X10_firstFor s m args below meth c 0 0 (MQ below (QI X 1 r N s.heap.size) args s 0 0 (AA X 1 s.heap.size)) 5 e_5 100 [] [] := by
      intro e_5 hre
      have he := hr2 e_5 hre
      refine z_iconst (v := (-1)) S dX10_firstFor_100 (by decide) ?_
      exact z_iret S (Prod.mk.inj (Option.some.inj he)) dX10_firstFor_101
    exact loopZ (Zh := (fun a_5 => Z X 1 p l e rm_X10_firstFor s m args below meth c 0 0 (MQ below (QI X 1 r N s.heap.size) args s 0 0 (AA X 1 s.heap.size)) 5 a_5.1 2 [(0, .ref (X.2.2 200)), (1, .int a1), (2, .int a2), (3, .int a_5.2)] [])) (fun a_5 x hb hc hr9 => p_X10_firstFor_L2 S  hb hc (fun b hxe => hX b (hr9 _ hxe).symm) (fun v hxv => Option.some.inj (hr1 v (hr9 _ hxv).symm))) FU _ hl
set_option maxRecDepth 100000 in
set_option maxHeartbeats 4000000 in
theorem K_X10_end {X : Cx} {l : Launch} {M : Mm} {a1 : Int32} {r : Bool} {N : Mm}  (he : f_X10_end M a1 = some (r, N)) : KI X 1 l yX10_end (wz yX10_end cX10_end 2 (some .boolean)) rm_X10_end [.ref (X.2.2 200), .int a1] M (bI r) N := by
  intro sz
  refine K_of (Qc := (fun sz => QI X 1 (bI r) N sz)) (own := RX10) (lv0 := [(0, .ref (X.2.2 200)), (1, .int a1)]) (by decide +kernel) rfl (Nat.le_of_ble_eq_true rfl) rfl (fun p e s m args below meth c S => ?_) sz
  · unfold f_X10_end at he
    refine z_aload_n S dX10_end_0 rfl 0 rfl ?_
    refine z_iconst (v := 0) S dX10_end_1 (by decide) ?_
    refine z_putIb S fo_RX10_63p rfl ok_200 rfl rfl he dX10_end_2 (fun M1 he => ?_)
    refine z_iload_n S dX10_end_5 rfl 1 rfl ?_
    refine z_iconst (v := 0) S dX10_end_6 (by decide) ?_
    refine z_aload_n S dX10_end_7 rfl 0 rfl ?_
    refine z_getI S fo_RX10_74 rfl ok_200 dX10_end_8 ?_
    refine z_cSI (As := [.int a1, .int 0, .int (gI M1 200 8)]) S cs_RX10_66 (K_X10_isIn  rfl) ⟨rfl, rfl⟩ ⟨Nat.le_of_ble_eq_true rfl, Nat.le_of_ble_eq_true rfl⟩ ⟨Nat.le_refl _, Nat.le_refl _⟩ rfl rfl (Nat.le_of_ble_eq_true rfl) dX10_end_11 ?_
    refine z_ifb_ne (tgt := 19) S he dX10_end_14 (by decide) (fun he => ?_) (fun he => ?_)
    · refine z_aload_n S dX10_end_19 rfl 0 rfl ?_
      refine z_iload_n S dX10_end_20 rfl 1 rfl ?_
      refine z_putIb S fo_RX10_74p rfl ok_200 rfl rfl he dX10_end_21 (fun M2 he => ?_)
      refine z_iconst (v := 1) S dX10_end_24 (by decide) ?_
      exact z_zret1 S (Prod.mk.inj (Option.some.inj he)) dX10_end_25
    · refine z_iconst (v := 0) S dX10_end_17 (by decide) ?_
      exact z_zret0 S (Prod.mk.inj (Option.some.inj he)) dX10_end_18
set_option maxRecDepth 100000 in
set_option maxHeartbeats 4000000 in
theorem p_X10_envy_L4 {X : Cx} {p : Program} {l : Launch} {e : Env} {s : State} {m : MethodId} {args : Array Value} {below : List Frame} {meth : Method} {c : Code} (S : SB X 1 p s m args meth c cX10_envy 5 (some .int) RX10) {M : Mm} {r : Int32} {v1 : Int32} {v2 : Int32} {v3 : Int32} {x : (Int32 × Int32) ⊕ Int32}  (he : f_X10_envy_L4 M v1 v2 v3 = some x) (hc : ∀ b, x = .inl b → Z X 1 p l e rm_X10_envy s m args below meth c 0 0 (MQ below (QI X 1 r M s.heap.size) args s 0 0 (AA X 1 s.heap.size)) 5 M 4 [(0, .ref (X.2.2 200)), (1, .int v1), (2, .int b.1), (3, .int b.2)] []) (hx : ∀ b, x = .inr b → Z X 1 p l e rm_X10_envy s m args below meth c 0 0 (MQ below (QI X 1 r M s.heap.size) args s 0 0 (AA X 1 s.heap.size)) 5 M 46 [(0, .ref (X.2.2 200)), (1, .int v1), (2, .int b)] []) : Z X 1 p l e rm_X10_envy s m args below meth c 0 0 (MQ below (QI X 1 r M s.heap.size) args s 0 0 (AA X 1 s.heap.size)) 5 M 4 [(0, .ref (X.2.2 200)), (1, .int v1), (2, .int v2), (3, .int v3)] [] := by
  unfold f_X10_envy_L4 at he
  refine z_iload_n S dX10_envy_4 rfl 3 rfl ?_
  refine z_aload_n S dX10_envy_5 rfl 0 rfl ?_
  refine z_getF (j := 201) S fo_RX10_7 1 rfl rfl ok_200 dX10_envy_6 ?_
  refine z_iconst (v := 4) S dX10_envy_9 (by decide) ?_
  refine z_iald S ok_201 rfl he dX10_envy_10 (fun he => ?_)
  refine z_icmp_ge (tgt := 46) S he dX10_envy_11 (by decide) (fun he => ?_) (fun he => ?_)
  · refine z_lv (ks := [0, 1, 2]) rfl ?_
    exact hx _ (Option.some.inj he).symm
  · refine z_aload_n S dX10_envy_14 rfl 0 rfl ?_
    refine z_getF (j := 208) S fo_RX10_35 8 rfl rfl ok_200 dX10_envy_15 ?_
    refine z_iload_n S dX10_envy_18 rfl 3 rfl ?_
    refine z_iald S ok_208 rfl he dX10_envy_19 (fun he => ?_)
    refine z_iload_n S dX10_envy_20 rfl 1 rfl ?_
    refine z_icmp_ne (tgt := 40) S he dX10_envy_21 (by decide) (fun he => ?_) (fun he => ?_)
    · refine z_iinc (v := (v3 + 1)) (lv' := [(0, .ref (X.2.2 200)), (1, .int v1), (2, .int v2), (3, .int (v3 + 1))]) S [1, 2, 3, 0] 3 dX10_envy_40 rfl (by rfl) (by decide) rfl ?_
      refine z_goto (tgt := 4) S dX10_envy_43 (by decide) ?_
      refine z_lv (ks := [0, 1, 2, 3]) rfl ?_
      exact hc _ (Option.some.inj he).symm
    · refine z_iload_n S dX10_envy_24 rfl 2 rfl ?_
      refine z_aload_n S dX10_envy_25 rfl 0 rfl ?_
      refine z_getF (j := 207) S fo_RX10_32 7 rfl rfl ok_200 dX10_envy_26 ?_
      refine z_bipush (v := 10) S dX10_envy_29 (by decide) ?_
      refine z_iload_n S dX10_envy_31 rfl 1 rfl ?_
      refine z_imul S dX10_envy_32 ?_
      refine z_iload_n S dX10_envy_33 rfl 3 rfl ?_
      refine z_iadd S dX10_envy_34 ?_
      refine z_iald S ok_207 rfl he dX10_envy_35 (fun he => ?_)
      refine z_cSI (As := [.int v2, .int (gA M 207 ((10 * v1) + v3))]) S cs_RX10_249 (K_X10_greater  rfl) ⟨rfl, rfl⟩ ⟨Nat.le_of_ble_eq_true rfl, Nat.le_of_ble_eq_true rfl⟩ ⟨Nat.le_refl _, Nat.le_refl _⟩ rfl rfl (Nat.le_of_ble_eq_true rfl) dX10_envy_36 ?_
      obtain ⟨x1, ex1, he⟩ := bnd he
      rw [Option.some.inj ex1]
      refine z_istore_n (lv' := [(0, .ref (X.2.2 200)), (1, .int v1), (2, .int x1), (3, .int v3)]) S [1, 2, 0, 3] dX10_envy_39 rfl (by decide) rfl ?_
      refine z_iinc (v := (v3 + 1)) (lv' := [(0, .ref (X.2.2 200)), (1, .int v1), (2, .int x1), (3, .int (v3 + 1))]) S [1, 2, 3, 0] 3 dX10_envy_40 rfl (by rfl) (by decide) rfl ?_
      refine z_goto (tgt := 4) S dX10_envy_43 (by decide) ?_
      refine z_lv (ks := [0, 1, 2, 3]) rfl ?_
      exact hc _ (Option.some.inj he).symm
set_option maxRecDepth 100000 in
set_option maxHeartbeats 4000000 in
theorem p_X10_envy_J51_118 {X : Cx} {p : Program} {l : Launch} {e : Env} {s : State} {m : MethodId} {args : Array Value} {below : List Frame} {meth : Method} {c : Code} (S : SB X 1 p s m args meth c cX10_envy 5 (some .int) RX10) {M : Mm} {r : Int32} {v1 : Int32} {v2 : Int32} {v4 : Int32} {t0 : Int32} {x : (Int32 × Int32) ⊕ Int32}  (he : f_X10_envy_J51_118 M v1 v2 v4 t0 = some x) (hc : ∀ b, x = .inl b → Z X 1 p l e rm_X10_envy s m args below meth c 0 0 (MQ below (QI X 1 r M s.heap.size) args s 0 0 (AA X 1 s.heap.size)) 5 M 51 [(0, .ref (X.2.2 200)), (1, .int v1), (2, .int v2), (3, .int b.1), (4, .int b.2)] []) (hx : ∀ b, x = .inr b → Z X 1 p l e rm_X10_envy s m args below meth c 0 0 (MQ below (QI X 1 r M s.heap.size) args s 0 0 (AA X 1 s.heap.size)) 5 M 127 [(3, .int b)] []) : Z X 1 p l e rm_X10_envy s m args below meth c 0 0 (MQ below (QI X 1 r M s.heap.size) args s 0 0 (AA X 1 s.heap.size)) 5 M 118 [(0, .ref (X.2.2 200)), (1, .int v1), (2, .int v2), (4, .int v4)] [.int t0] := by
  unfold f_X10_envy_J51_118 at he
  refine z_iconst (v := 0) S dX10_envy_118 (by decide) ?_
  refine z_ior S dX10_envy_119 ?_
  refine z_istore_n (lv' := [(0, .ref (X.2.2 200)), (1, .int v1), (2, .int v2), (3, .int (t0 ||| 0)), (4, .int v4)]) S [1, 2, 3, 0, 4] dX10_envy_120 rfl (by decide) rfl ?_
  refine z_iinc (v := (v4 + 1)) (lv' := [(0, .ref (X.2.2 200)), (1, .int v1), (2, .int v2), (3, .int (t0 ||| 0)), (4, .int (v4 + 1))]) S [1, 2, 3, 4, 0] 4 dX10_envy_121 rfl (by rfl) (by decide) rfl ?_
  refine z_goto (tgt := 51) S dX10_envy_124 (by decide) ?_
  refine z_lv (ks := [0, 1, 2, 3, 4]) rfl ?_
  exact hc _ (Option.some.inj he).symm
set_option maxRecDepth 100000 in
set_option maxHeartbeats 4000000 in
theorem p_X10_envy_L51 {X : Cx} {p : Program} {l : Launch} {e : Env} {s : State} {m : MethodId} {args : Array Value} {below : List Frame} {meth : Method} {c : Code} (S : SB X 1 p s m args meth c cX10_envy 5 (some .int) RX10) {M : Mm} {r : Int32} {v1 : Int32} {v2 : Int32} {v3 : Int32} {v4 : Int32} {x : (Int32 × Int32) ⊕ Int32}  (he : f_X10_envy_L51 M v1 v2 v3 v4 = some x) (hc : ∀ b, x = .inl b → Z X 1 p l e rm_X10_envy s m args below meth c 0 0 (MQ below (QI X 1 r M s.heap.size) args s 0 0 (AA X 1 s.heap.size)) 5 M 51 [(0, .ref (X.2.2 200)), (1, .int v1), (2, .int v2), (3, .int b.1), (4, .int b.2)] []) (hx : ∀ b, x = .inr b → Z X 1 p l e rm_X10_envy s m args below meth c 0 0 (MQ below (QI X 1 r M s.heap.size) args s 0 0 (AA X 1 s.heap.size)) 5 M 127 [(3, .int b)] []) : Z X 1 p l e rm_X10_envy s m args below meth c 0 0 (MQ below (QI X 1 r M s.heap.size) args s 0 0 (AA X 1 s.heap.size)) 5 M 51 [(0, .ref (X.2.2 200)), (1, .int v1), (2, .int v2), (3, .int v3), (4, .int v4)] [] := by
  unfold f_X10_envy_L51 at he
  refine z_iload S dX10_envy_51 4 rfl ?_
  refine z_aload_n S dX10_envy_53 rfl 0 rfl ?_
  refine z_getF (j := 201) S fo_RX10_7 1 rfl rfl ok_200 dX10_envy_54 ?_
  refine z_iconst (v := 4) S dX10_envy_57 (by decide) ?_
  refine z_iald S ok_201 rfl he dX10_envy_58 (fun he => ?_)
  refine z_icmp_ge (tgt := 127) S he dX10_envy_59 (by decide) (fun he => ?_) (fun he => ?_)
  · refine z_lv (ks := [3]) rfl ?_
    exact hx _ (Option.some.inj he).symm
  · refine z_iload_n S dX10_envy_62 rfl 3 rfl ?_
    refine z_aload_n S dX10_envy_63 rfl 0 rfl ?_
    refine z_getF (j := 208) S fo_RX10_35 8 rfl rfl ok_200 dX10_envy_64 ?_
    refine z_iload S dX10_envy_67 4 rfl ?_
    refine z_iald S ok_208 rfl he dX10_envy_69 (fun he => ?_)
    refine z_iconst (v := (-1)) S dX10_envy_70 (by decide) ?_
    refine z_icmp_eq (tgt := 118) S he dX10_envy_71 (by decide) (fun he => ?_) (fun he => ?_)
    · refine z_lv (ks := [0, 1, 2, 4]) rfl ?_
      exact p_X10_envy_J51_118 S  he hc hx
    · refine z_aload_n S dX10_envy_74 rfl 0 rfl ?_
      refine z_getF (j := 208) S fo_RX10_35 8 rfl rfl ok_200 dX10_envy_75 ?_
      refine z_iload S dX10_envy_78 4 rfl ?_
      refine z_iald S ok_208 rfl he dX10_envy_80 (fun he => ?_)
      refine z_iload_n S dX10_envy_81 rfl 1 rfl ?_
      refine z_icmp_eq (tgt := 118) S he dX10_envy_82 (by decide) (fun he => ?_) (fun he => ?_)
      · refine z_lv (ks := [0, 1, 2, 4]) rfl ?_
        exact p_X10_envy_J51_118 S  he hc hx
      · refine z_aload_n S dX10_envy_85 rfl 0 rfl ?_
        refine z_iload_n S dX10_envy_86 rfl 1 rfl ?_
        refine z_iload S dX10_envy_87 4 rfl ?_
        obtain ⟨r3, h9, he⟩ := bnd he
        refine z_cVI (As := [.int v1, .int v4]) S cv_RX10_259 (K_X10_canHave  h9) ok_200 (by decide) (q := (RX10, TX10, 28)) rfl rfl ⟨rfl, rfl⟩ ⟨Nat.le_of_ble_eq_true rfl, Nat.le_of_ble_eq_true rfl⟩ ⟨Nat.le_refl _, Nat.le_refl _⟩ rfl rfl (Nat.le_of_ble_eq_true rfl) dX10_envy_89 ?_
        refine z_ifb_eq (tgt := 118) S he dX10_envy_92 (by decide) (fun he => ?_) (fun he => ?_)
        · refine z_lv (ks := [0, 1, 2, 4]) rfl ?_
          exact p_X10_envy_J51_118 S  he hc hx
        · refine z_aload_n S dX10_envy_95 rfl 0 rfl ?_
          refine z_getF (j := 207) S fo_RX10_32 7 rfl rfl ok_200 dX10_envy_96 ?_
          refine z_bipush (v := 10) S dX10_envy_99 (by decide) ?_
          refine z_iload_n S dX10_envy_101 rfl 1 rfl ?_
          refine z_imul S dX10_envy_102 ?_
          refine z_iload S dX10_envy_103 4 rfl ?_
          refine z_iadd S dX10_envy_105 ?_
          refine z_iald S ok_207 rfl he dX10_envy_106 (fun he => ?_)
          refine z_iload_n S dX10_envy_107 rfl 2 rfl ?_
          refine z_icmp_le (tgt := 118) S he dX10_envy_108 (by decide) (fun he => ?_) (fun he => ?_)
          · refine z_lv (ks := [0, 1, 2, 4]) rfl ?_
            exact p_X10_envy_J51_118 S  he hc hx
          · refine z_iconst (v := 1) S dX10_envy_111 (by decide) ?_
            refine z_iload S dX10_envy_112 4 rfl ?_
            refine z_ishl S dX10_envy_114 ?_
            refine z_goto (tgt := 119) S dX10_envy_115 (by decide) ?_
            refine z_ior S dX10_envy_119 ?_
            obtain ⟨x4, ex4, he⟩ := bnd he
            rw [Option.some.inj ex4]
            refine z_istore_n (lv' := [(0, .ref (X.2.2 200)), (1, .int v1), (2, .int v2), (3, .int x4), (4, .int v4)]) S [1, 2, 3, 0, 4] dX10_envy_120 rfl (by decide) rfl ?_
            refine z_iinc (v := (v4 + 1)) (lv' := [(0, .ref (X.2.2 200)), (1, .int v1), (2, .int v2), (3, .int x4), (4, .int (v4 + 1))]) S [1, 2, 3, 4, 0] 4 dX10_envy_121 rfl (by rfl) (by decide) rfl ?_
            refine z_goto (tgt := 51) S dX10_envy_124 (by decide) ?_
            refine z_lv (ks := [0, 1, 2, 3, 4]) rfl ?_
            exact hc _ (Option.some.inj he).symm
set_option maxRecDepth 100000 in
set_option maxHeartbeats 4000000 in
theorem K_X10_envy {X : Cx} {l : Launch} {M : Mm} {a1 : Int32} {r : Int32}  (he : f_X10_envy M a1 = some r) : KI X 1 l yX10_envy (wz yX10_envy cX10_envy 5 (some .int)) rm_X10_envy [.ref (X.2.2 200), .int a1] M r M := by
  intro sz
  refine K_of (Qc := (fun sz => QI X 1 r M sz)) (own := RX10) (lv0 := [(0, .ref (X.2.2 200)), (1, .int a1)]) (by decide +kernel) rfl (Nat.le_of_ble_eq_true rfl) rfl (fun p e s m args below meth c S => ?_) sz
  · unfold f_X10_envy at he
    refine z_iconst (v := (-1)) S dX10_envy_0 (by decide) ?_
    refine z_istore_n (lv' := [(0, .ref (X.2.2 200)), (1, .int a1), (2, .int (-1))]) S [1, 2, 0] dX10_envy_1 rfl (by decide) rfl ?_
    refine z_iconst (v := 0) S dX10_envy_2 (by decide) ?_
    refine z_istore_n (lv' := [(0, .ref (X.2.2 200)), (1, .int a1), (2, .int (-1)), (3, .int 0)]) S [1, 2, 3, 0] dX10_envy_3 rfl (by decide) rfl ?_
    obtain ⟨e_2, hl, he⟩ := bnd he
    have hX : Z X 1 p l e rm_X10_envy s m args below meth c 0 0 (MQ below (QI X 1 r M s.heap.size) args s 0 0 (AA X 1 s.heap.size)) 5 M 46 [(0, .ref (X.2.2 200)), (1, .int a1), (2, .int e_2)] [] := by
      refine z_iconst (v := 0) S dX10_envy_46 (by decide) ?_
      refine z_istore_n (lv' := [(0, .ref (X.2.2 200)), (1, .int a1), (2, .int e_2), (3, .int 0)]) S [1, 2, 3, 0] dX10_envy_47 rfl (by decide) rfl ?_
      refine z_iconst (v := 0) S dX10_envy_48 (by decide) ?_
      refine z_istore (lv' := [(0, .ref (X.2.2 200)), (1, .int a1), (2, .int e_2), (3, .int 0), (4, .int 0)]) S [1, 2, 3, 4, 0] dX10_envy_49 (by decide) rfl ?_
      obtain ⟨e_5, hl, he⟩ := bnd he
      have hX : Z X 1 p l e rm_X10_envy s m args below meth c 0 0 (MQ below (QI X 1 r M s.heap.size) args s 0 0 (AA X 1 s.heap.size)) 5 M 127 [(3, .int e_5)] [] := by
        refine z_iload_n S dX10_envy_127 rfl 0 rfl ?_
        exact z_iret S (⟨Option.some.inj he, rfl⟩) dX10_envy_128
      exact loopZ (Zh := (fun a_5 => Z X 1 p l e rm_X10_envy s m args below meth c 0 0 (MQ below (QI X 1 r M s.heap.size) args s 0 0 (AA X 1 s.heap.size)) 5 M 51 [(0, .ref (X.2.2 200)), (1, .int a1), (2, .int e_2), (3, .int a_5.1), (4, .int a_5.2)] [])) (fun a_5 x hb hc hr => p_X10_envy_L51 S  hb hc (fun b hxe => by rw [hr b hxe]; exact hX)) FU _ hl
    exact loopZ (Zh := (fun a_2 => Z X 1 p l e rm_X10_envy s m args below meth c 0 0 (MQ below (QI X 1 r M s.heap.size) args s 0 0 (AA X 1 s.heap.size)) 5 M 4 [(0, .ref (X.2.2 200)), (1, .int a1), (2, .int a_2.1), (3, .int a_2.2)] [])) (fun a_2 x hb hc hr => p_X10_envy_L4 S  hb hc (fun b hxe => by rw [hr b hxe]; exact hX)) FU _ hl
set_option maxRecDepth 100000 in
set_option maxHeartbeats 4000000 in
theorem K_X10_fault {X : Cx} {l : Launch} {M : Mm} {r : Int32} {N : Mm}  (he : f_X10_fault M  = (r, N)) : KI X 1 l yX10_fault (wz yX10_fault cX10_fault 1 (some .int)) rm_X10_fault [.ref (X.2.2 200)] M r N := by
  intro sz
  refine K_of (Qc := (fun sz => QI X 1 r N sz)) (own := RX10) (lv0 := [(0, .ref (X.2.2 200))]) (by decide +kernel) rfl (Nat.le_of_ble_eq_true rfl) rfl (fun p e s m args below meth c S => ?_) sz
  · unfold f_X10_fault at he
    refine z_aload_n S dX10_fault_0 rfl 0 rfl ?_
    refine z_iconst (v := 0) S dX10_fault_1 (by decide) ?_
    refine z_putI S fo_RX10_63p rfl ok_200 rfl rfl dX10_fault_2 ?_
    refine z_aload_n S dX10_fault_5 rfl 0 rfl ?_
    refine z_getI S fo_RX10_25 rfl ok_200 dX10_fault_6 ?_
    exact z_iret S (Prod.mk.inj (he)) dX10_fault_9
set_option maxRecDepth 100000 in
set_option maxHeartbeats 4000000 in
theorem p_X10_feed_J23_76 {X : Cx} {p : Program} {l : Launch} {e : Env} {s : State} {m : MethodId} {args : Array Value} {below : List Frame} {meth : Method} {c : Code} (S : SB X 1 p s m args meth c cX10_feed 8 (some .int) RX10) {M : Mm} {N : Mm} {r : Int32} {v1 : Int32} {v2 : Int32} {v3 : Int32} {v4 : Int32} {v5 : Int32} {v6 : Int32} {t0 : Int32} {x : (Mm × Int32) ⊕ Mm}  (he : f_X10_feed_J23_76 M v1 v2 v3 v4 v5 v6 t0 = some x) (hc : ∀ b, x = .inl b → Z X 1 p l e rm_X10_feed s m args below meth c 0 0 (MQ below (QI X 1 r N s.heap.size) args s 0 0 (AA X 1 s.heap.size)) 8 b.1 23 [(0, .ref (X.2.2 200)), (1, .int v1), (2, .int v2), (3, .int v3), (4, .int v4), (5, .int v5), (6, .int b.2)] []) (hx : ∀ b, x = .inr b → Z X 1 p l e rm_X10_feed s m args below meth c 0 0 (MQ below (QI X 1 r N s.heap.size) args s 0 0 (AA X 1 s.heap.size)) 8 b 120 [(0, .ref (X.2.2 200))] []) : Z X 1 p l e rm_X10_feed s m args below meth c 0 0 (MQ below (QI X 1 r N s.heap.size) args s 0 0 (AA X 1 s.heap.size)) 8 M 76 [(0, .ref (X.2.2 200)), (1, .int v1), (2, .int v2), (3, .int v3), (4, .int v4), (5, .int v5), (6, .int v6)] [.int t0] := by
  unfold f_X10_feed_J23_76 at he
  refine z_istore (lv' := [(0, .ref (X.2.2 200)), (1, .int v1), (2, .int v2), (3, .int v3), (4, .int v4), (5, .int v5), (6, .int v6), (7, .int t0)]) S [1, 2, 3, 4, 5, 6, 7, 0] dX10_feed_76 (by decide) rfl ?_
  refine z_aload_n S dX10_feed_78 rfl 0 rfl ?_
  refine z_getF (j := 205) S fo_RX10_22 5 rfl rfl ok_200 dX10_feed_79 ?_
  refine z_aload_n S dX10_feed_82 rfl 0 rfl ?_
  refine z_getI S fo_RX10_74 rfl ok_200 dX10_feed_83 ?_
  refine z_iload S dX10_feed_86 7 rfl ?_
  refine z_bipush (v := 24) S dX10_feed_88 (by decide) ?_
  refine z_bipush (v := 8) S dX10_feed_90 (by decide) ?_
  refine z_iload S dX10_feed_92 6 rfl ?_
  refine z_iconst (v := 4) S dX10_feed_94 (by decide) ?_
  refine z_irem S (by decide) dX10_feed_95 ?_
  refine z_imul S dX10_feed_96 ?_
  refine z_isub S dX10_feed_97 ?_
  refine z_iushr S dX10_feed_98 ?_
  refine z_sipush (v := 255) S dX10_feed_99 (by decide) ?_
  refine z_iand S dX10_feed_102 ?_
  refine z_iastb S ok_205 rfl he dX10_feed_103 (fun M2 he => ?_)
  refine z_aload_n S dX10_feed_104 rfl 0 rfl ?_
  refine z_dup S rfl dX10_feed_105 ?_
  refine z_getI S fo_RX10_74 rfl ok_200 dX10_feed_106 ?_
  refine z_iconst (v := 1) S dX10_feed_109 (by decide) ?_
  refine z_iadd S dX10_feed_110 ?_
  refine z_putIb S fo_RX10_74p rfl ok_200 rfl rfl he dX10_feed_111 (fun M3 he => ?_)
  refine z_iinc (v := (v6 + 1)) (lv' := [(0, .ref (X.2.2 200)), (1, .int v1), (2, .int v2), (3, .int v3), (4, .int v4), (5, .int v5), (6, .int (v6 + 1)), (7, .int t0)]) S [1, 2, 3, 4, 5, 6, 0, 7] 6 dX10_feed_114 rfl (by rfl) (by decide) rfl ?_
  refine z_goto (tgt := 23) S dX10_feed_117 (by decide) ?_
  refine z_lv (ks := [0, 1, 2, 3, 4, 5, 6]) rfl ?_
  exact hc _ (Option.some.inj he).symm
set_option maxRecDepth 100000 in
set_option maxHeartbeats 4000000 in
theorem p_X10_feed_L23 {X : Cx} {p : Program} {l : Launch} {e : Env} {s : State} {m : MethodId} {args : Array Value} {below : List Frame} {meth : Method} {c : Code} (S : SB X 1 p s m args meth c cX10_feed 8 (some .int) RX10) {M : Mm} {N : Mm} {r : Int32} {v1 : Int32} {v2 : Int32} {v3 : Int32} {v4 : Int32} {v5 : Int32} {v6 : Int32} {x : (Mm × Int32) ⊕ Mm}  (he : f_X10_feed_L23 M v1 v2 v3 v4 v5 v6 = some x) (hc : ∀ b, x = .inl b → Z X 1 p l e rm_X10_feed s m args below meth c 0 0 (MQ below (QI X 1 r N s.heap.size) args s 0 0 (AA X 1 s.heap.size)) 8 b.1 23 [(0, .ref (X.2.2 200)), (1, .int v1), (2, .int v2), (3, .int v3), (4, .int v4), (5, .int v5), (6, .int b.2)] []) (hx : ∀ b, x = .inr b → Z X 1 p l e rm_X10_feed s m args below meth c 0 0 (MQ below (QI X 1 r N s.heap.size) args s 0 0 (AA X 1 s.heap.size)) 8 b 120 [(0, .ref (X.2.2 200))] []) : Z X 1 p l e rm_X10_feed s m args below meth c 0 0 (MQ below (QI X 1 r N s.heap.size) args s 0 0 (AA X 1 s.heap.size)) 8 M 23 [(0, .ref (X.2.2 200)), (1, .int v1), (2, .int v2), (3, .int v3), (4, .int v4), (5, .int v5), (6, .int v6)] [] := by
  unfold f_X10_feed_L23 at he
  refine z_iload S dX10_feed_23 6 rfl ?_
  refine z_bipush (v := 20) S dX10_feed_25 (by decide) ?_
  refine z_icmp_ge (tgt := 120) S he dX10_feed_27 (by decide) (fun he => ?_) (fun he => ?_)
  · refine z_lv (ks := [0]) rfl ?_
    exact hx _ (Option.some.inj he).symm
  · refine z_iload S dX10_feed_30 6 rfl ?_
    refine z_iconst (v := 4) S dX10_feed_32 (by decide) ?_
    refine z_icmp_ge (tgt := 40) S he dX10_feed_33 (by decide) (fun he => ?_) (fun he => ?_)
    · refine z_iload S dX10_feed_40 6 rfl ?_
      refine z_bipush (v := 8) S dX10_feed_42 (by decide) ?_
      refine z_icmp_ge (tgt := 51) S he dX10_feed_44 (by decide) (fun he => ?_) (fun he => ?_)
      · refine z_iload S dX10_feed_51 6 rfl ?_
        refine z_bipush (v := 12) S dX10_feed_53 (by decide) ?_
        refine z_icmp_ge (tgt := 62) S he dX10_feed_55 (by decide) (fun he => ?_) (fun he => ?_)
        · refine z_iload S dX10_feed_62 6 rfl ?_
          refine z_bipush (v := 16) S dX10_feed_64 (by decide) ?_
          refine z_icmp_ge (tgt := 74) S he dX10_feed_66 (by decide) (fun he => ?_) (fun he => ?_)
          · refine z_iload S dX10_feed_74 5 rfl ?_
            exact p_X10_feed_J23_76 S  he hc hx
          · refine z_iload S dX10_feed_69 4 rfl ?_
            refine z_goto (tgt := 76) S dX10_feed_71 (by decide) ?_
            exact p_X10_feed_J23_76 S  he hc hx
        · refine z_iload_n S dX10_feed_58 rfl 3 rfl ?_
          refine z_goto (tgt := 76) S dX10_feed_59 (by decide) ?_
          exact p_X10_feed_J23_76 S  he hc hx
      · refine z_iload_n S dX10_feed_47 rfl 2 rfl ?_
        refine z_goto (tgt := 76) S dX10_feed_48 (by decide) ?_
        exact p_X10_feed_J23_76 S  he hc hx
    · refine z_iload_n S dX10_feed_36 rfl 1 rfl ?_
      refine z_goto (tgt := 76) S dX10_feed_37 (by decide) ?_
      exact p_X10_feed_J23_76 S  he hc hx
set_option maxRecDepth 100000 in
set_option maxHeartbeats 4000000 in
theorem K_X10_feed {X : Cx} {l : Launch} {M : Mm} {a1 : Int32} {a2 : Int32} {a3 : Int32} {a4 : Int32} {a5 : Int32} {r : Int32} {N : Mm}  (he : f_X10_feed M a1 a2 a3 a4 a5 = some (r, N)) : KI X 1 l yX10_feed (wz yX10_feed cX10_feed 8 (some .int)) rm_X10_feed [.ref (X.2.2 200), .int a1, .int a2, .int a3, .int a4, .int a5] M r N := by
  intro sz
  refine K_of (Qc := (fun sz => QI X 1 r N sz)) (own := RX10) (lv0 := [(0, .ref (X.2.2 200)), (1, .int a1), (2, .int a2), (3, .int a3), (4, .int a4), (5, .int a5)]) (by decide +kernel) rfl (Nat.le_of_ble_eq_true rfl) rfl (fun p e s m args below meth c S => ?_) sz
  · unfold f_X10_feed at he
    refine z_aload_n S dX10_feed_0 rfl 0 rfl ?_
    refine z_iconst (v := 0) S dX10_feed_1 (by decide) ?_
    refine z_putIb S fo_RX10_63p rfl ok_200 rfl rfl he dX10_feed_2 (fun M1 he => ?_)
    refine z_aload_n S dX10_feed_5 rfl 0 rfl ?_
    refine z_getI S fo_RX10_74 rfl ok_200 dX10_feed_6 ?_
    refine z_bipush (v := 20) S dX10_feed_9 (by decide) ?_
    refine z_iadd S dX10_feed_11 ?_
    refine z_sipush (v := 400) S dX10_feed_12 (by decide) ?_
    refine z_icmp_le (tgt := 20) S he dX10_feed_15 (by decide) (fun he => ?_) (fun he => ?_)
    · refine z_iconst (v := 0) S dX10_feed_20 (by decide) ?_
      refine z_istore (lv' := [(0, .ref (X.2.2 200)), (1, .int a1), (2, .int a2), (3, .int a3), (4, .int a4), (5, .int a5), (6, .int 0)]) S [1, 2, 3, 4, 5, 6, 0] dX10_feed_21 (by decide) rfl ?_
      obtain ⟨e_4, hl, he⟩ := bnd he
      have hX : Z X 1 p l e rm_X10_feed s m args below meth c 0 0 (MQ below (QI X 1 r N s.heap.size) args s 0 0 (AA X 1 s.heap.size)) 8 e_4 120 [(0, .ref (X.2.2 200))] [] := by
        refine z_aload_n S dX10_feed_120 rfl 0 rfl ?_
        refine z_getI S fo_RX10_74 rfl ok_200 dX10_feed_121 ?_
        exact z_iret S (Prod.mk.inj (Option.some.inj he)) dX10_feed_124
      exact loopZ (Zh := (fun a_4 => Z X 1 p l e rm_X10_feed s m args below meth c 0 0 (MQ below (QI X 1 r N s.heap.size) args s 0 0 (AA X 1 s.heap.size)) 8 a_4.1 23 [(0, .ref (X.2.2 200)), (1, .int a1), (2, .int a2), (3, .int a3), (4, .int a4), (5, .int a5), (6, .int a_4.2)] [])) (fun a_4 x hb hc hr => p_X10_feed_L23 S  hb hc (fun b hxe => by rw [hr b hxe]; exact hX)) FU _ hl
    · refine z_iconst (v := (-1)) S dX10_feed_18 (by decide) ?_
      exact z_iret S (Prod.mk.inj (Option.some.inj he)) dX10_feed_19
set_option maxRecDepth 100000 in
set_option maxHeartbeats 4000000 in
theorem p_X10_hold_J28 {X : Cx} {p : Program} {l : Launch} {e : Env} {s : State} {m : MethodId} {args : Array Value} {below : List Frame} {meth : Method} {c : Code} (S : SB X 1 p s m args meth c cX10_hold 4 (some .int) RX10) {M : Mm} {N : Mm} {r : Int32} {v1 : Int32} {v2 : Int32} {t0 : Int32}  (he : f_X10_hold_J28 M v1 v2 t0 = some (r, N)) : Z X 1 p l e rm_X10_hold s m args below meth c 0 0 (MQ below (QI X 1 r N s.heap.size) args s 0 0 (AA X 1 s.heap.size)) 4 M 28 [(0, .ref (X.2.2 200)), (1, .int v1), (2, .int v2)] [.int t0, .ref (X.2.2 200)] := by
  unfold f_X10_hold_J28 at he
  refine z_putIb S fo_RX10_63p rfl ok_200 rfl rfl he dX10_hold_28 (fun M2 he => ?_)
  refine z_aload_n S dX10_hold_31 rfl 0 rfl ?_
  refine z_getI S fo_RX10_63 rfl ok_200 dX10_hold_32 ?_
  refine z_if_le (tgt := 40) S he dX10_hold_35 (by decide) (fun he => ?_) (fun he => ?_)
  · refine z_aload_n S dX10_hold_40 rfl 0 rfl ?_
    obtain ⟨M3, h9, he⟩ := bnd he
    refine z_cVV (As := []) S cv_RX10_306 (K_X10_remembers  h9) ok_200 (by decide) (q := (RX10, TX10, 28)) rfl rfl ⟨rfl, rfl⟩ ⟨Nat.le_of_ble_eq_true rfl, Nat.le_of_ble_eq_true rfl⟩ ⟨Nat.le_refl _, Nat.le_refl _⟩ rfl rfl (Nat.le_of_ble_eq_true rfl) dX10_hold_41 ?_
    refine z_aload_n S dX10_hold_44 rfl 0 rfl ?_
    refine z_iload_n S dX10_hold_45 rfl 1 rfl ?_
    refine z_iconst (v := 1) S dX10_hold_46 (by decide) ?_
    obtain ⟨r4, h9, he⟩ := bnd he
    refine z_cVI (As := [.int v1, .int 1]) S cv_RX10_70 (K_X10_of  h9) ok_200 (by decide) (q := (RX10, TX10, 28)) rfl rfl ⟨rfl, rfl⟩ ⟨Nat.le_of_ble_eq_true rfl, Nat.le_of_ble_eq_true rfl⟩ ⟨Nat.le_refl _, Nat.le_refl _⟩ rfl rfl (Nat.le_of_ble_eq_true rfl) dX10_hold_47 ?_
    refine z_istore_n (lv' := [(0, .ref (X.2.2 200)), (1, .int v1), (2, .int v2), (3, .int r4)]) S [1, 2, 3, 0] dX10_hold_50 rfl (by decide) rfl ?_
    refine z_aload_n S dX10_hold_51 rfl 0 rfl ?_
    refine z_getF (j := 201) S fo_RX10_7 1 rfl rfl ok_200 dX10_hold_52 ?_
    refine z_bipush (v := 12) S dX10_hold_55 (by decide) ?_
    refine z_iconst (v := 5) S dX10_hold_57 (by decide) ?_
    refine z_iload_n S dX10_hold_58 rfl 1 rfl ?_
    refine z_imul S dX10_hold_59 ?_
    refine z_iadd S dX10_hold_60 ?_
    refine z_iconst (v := 1) S dX10_hold_61 (by decide) ?_
    refine z_iadd S dX10_hold_62 ?_
    refine z_iload_n S dX10_hold_63 rfl 2 rfl ?_
    refine z_iastb S ok_201 rfl he dX10_hold_64 (fun M5 he => ?_)
    refine z_iload_n S dX10_hold_65 rfl 3 rfl ?_
    exact z_iret S (Prod.mk.inj (Option.some.inj he)) dX10_hold_66
  · refine z_iconst (v := 0) S dX10_hold_38 (by decide) ?_
    exact z_iret S (Prod.mk.inj (Option.some.inj he)) dX10_hold_39
set_option maxRecDepth 100000 in
set_option maxHeartbeats 4000000 in
theorem K_X10_hold {X : Cx} {l : Launch} {M : Mm} {a1 : Int32} {a2 : Int32} {r : Int32} {N : Mm}  (he : f_X10_hold M a1 a2 = some (r, N)) : KI X 1 l yX10_hold (wz yX10_hold cX10_hold 4 (some .int)) rm_X10_hold [.ref (X.2.2 200), .int a1, .int a2] M r N := by
  intro sz
  refine K_of (Qc := (fun sz => QI X 1 r N sz)) (own := RX10) (lv0 := [(0, .ref (X.2.2 200)), (1, .int a1), (2, .int a2)]) (by decide +kernel) rfl (Nat.le_of_ble_eq_true rfl) rfl (fun p e s m args below meth c S => ?_) sz
  · unfold f_X10_hold at he
    refine z_aload_n S dX10_hold_0 rfl 0 rfl ?_
    refine z_aload_n S dX10_hold_1 rfl 0 rfl ?_
    refine z_iload_n S dX10_hold_2 rfl 1 rfl ?_
    obtain ⟨r1, h9, he⟩ := bnd he
    refine z_cVI (As := [.int a1]) S cv_RX10_285 (K_X10_isThing  h9) ok_200 (by decide) (q := (RX10, TX10, 28)) rfl rfl ⟨rfl, rfl⟩ ⟨Nat.le_of_ble_eq_true rfl, Nat.le_of_ble_eq_true rfl⟩ ⟨Nat.le_refl _, Nat.le_refl _⟩ rfl rfl (Nat.le_of_ble_eq_true rfl) dX10_hold_3 ?_
    refine z_ifb_ne (tgt := 13) S he dX10_hold_6 (by decide) (fun he => ?_) (fun he => ?_)
    · refine z_iload_n S dX10_hold_13 rfl 2 rfl ?_
      refine z_iconst (v := 0) S dX10_hold_14 (by decide) ?_
      refine z_bipush (v := 99) S dX10_hold_15 (by decide) ?_
      refine z_cSI (As := [.int a2, .int 0, .int 99]) S cs_RX10_66 (K_X10_isIn  rfl) ⟨rfl, rfl⟩ ⟨Nat.le_of_ble_eq_true rfl, Nat.le_of_ble_eq_true rfl⟩ ⟨Nat.le_refl _, Nat.le_refl _⟩ rfl rfl (Nat.le_of_ble_eq_true rfl) dX10_hold_17 ?_
      refine z_ifb_ne (tgt := 27) S he dX10_hold_20 (by decide) (fun he => ?_) (fun he => ?_)
      · refine z_iconst (v := 0) S dX10_hold_27 (by decide) ?_
        exact p_X10_hold_J28 S  he
      · refine z_iconst (v := 2) S dX10_hold_23 (by decide) ?_
        refine z_goto (tgt := 28) S dX10_hold_24 (by decide) ?_
        exact p_X10_hold_J28 S  he
    · refine z_iconst (v := 1) S dX10_hold_9 (by decide) ?_
      refine z_goto (tgt := 28) S dX10_hold_10 (by decide) ?_
      exact p_X10_hold_J28 S  he
set_option maxRecDepth 100000 in
set_option maxHeartbeats 4000000 in
theorem p_X10_image_L7 {X : Cx} {p : Program} {l : Launch} {e : Env} {s : State} {m : MethodId} {args : Array Value} {below : List Frame} {meth : Method} {c : Code} (S : SB X 1 p s m args meth c cX10_image 2 none RX10) {M : Mm} {N : Mm} {v1 : Int32} {x : (Mm × Int32) ⊕ Mm}  (he : f_X10_image_L7 M v1 = some x) (hc : ∀ b, x = .inl b → Z X 1 p l e rm_X10_image s m args below meth c 0 0 (MQ below (QV X 1 N s.heap.size) args s 0 0 (AA X 1 s.heap.size)) 2 b.1 7 [(0, .ref (X.2.2 200)), (1, .int b.2)] []) (hx : ∀ b, x = .inr b → Z X 1 p l e rm_X10_image s m args below meth c 0 0 (MQ below (QV X 1 N s.heap.size) args s 0 0 (AA X 1 s.heap.size)) 2 b 32 [(0, .ref (X.2.2 200))] []) : Z X 1 p l e rm_X10_image s m args below meth c 0 0 (MQ below (QV X 1 N s.heap.size) args s 0 0 (AA X 1 s.heap.size)) 2 M 7 [(0, .ref (X.2.2 200)), (1, .int v1)] [] := by
  unfold f_X10_image_L7 at he
  refine z_iload_n S dX10_image_7 rfl 1 rfl ?_
  refine z_sipush (v := 807) S dX10_image_8 (by decide) ?_
  refine z_icmp_ge (tgt := 32) S he dX10_image_11 (by decide) (fun he => ?_) (fun he => ?_)
  · refine z_lv (ks := [0]) rfl ?_
    exact hx _ (Option.some.inj he).symm
  · refine z_aload_n S dX10_image_14 rfl 0 rfl ?_
    refine z_getF (j := 202) S fo_RX10_13 2 rfl rfl ok_200 dX10_image_15 ?_
    refine z_iload_n S dX10_image_18 rfl 1 rfl ?_
    refine z_aload_n S dX10_image_19 rfl 0 rfl ?_
    refine z_getF (j := 201) S fo_RX10_7 1 rfl rfl ok_200 dX10_image_20 ?_
    refine z_iload_n S dX10_image_23 rfl 1 rfl ?_
    refine z_iald S ok_201 rfl he dX10_image_24 (fun he => ?_)
    refine z_iastb S ok_202 rfl he dX10_image_25 (fun M2 he => ?_)
    refine z_iinc (v := (v1 + 1)) (lv' := [(0, .ref (X.2.2 200)), (1, .int (v1 + 1))]) S [1, 0] 1 dX10_image_26 rfl (by rfl) (by decide) rfl ?_
    refine z_goto (tgt := 7) S dX10_image_29 (by decide) ?_
    refine z_lv (ks := [0, 1]) rfl ?_
    exact hc _ (Option.some.inj he).symm
set_option maxRecDepth 100000 in
set_option maxHeartbeats 4000000 in
theorem K_X10_image {X : Cx} {l : Launch} {M : Mm} {N : Mm}  (he : f_X10_image M  = some N) : KV X 1 l yX10_image (wz yX10_image cX10_image 2 none) rm_X10_image [.ref (X.2.2 200)] M N := by
  intro sz
  refine K_of (Qc := (fun sz => QV X 1 N sz)) (own := RX10) (lv0 := [(0, .ref (X.2.2 200))]) (by decide +kernel) rfl (Nat.le_of_ble_eq_true rfl) rfl (fun p e s m args below meth c S => ?_) sz
  · unfold f_X10_image at he
    refine z_aload_n S dX10_image_0 rfl 0 rfl ?_
    refine z_iconst (v := 0) S dX10_image_1 (by decide) ?_
    refine z_putIb S fo_RX10_63p rfl ok_200 rfl rfl he dX10_image_2 (fun M1 he => ?_)
    refine z_iconst (v := 0) S dX10_image_5 (by decide) ?_
    refine z_istore_n (lv' := [(0, .ref (X.2.2 200)), (1, .int 0)]) S [1, 0] dX10_image_6 rfl (by decide) rfl ?_
    obtain ⟨e_3, hl, he⟩ := bnd he
    have hX : Z X 1 p l e rm_X10_image s m args below meth c 0 0 (MQ below (QV X 1 N s.heap.size) args s 0 0 (AA X 1 s.heap.size)) 2 e_3 32 [(0, .ref (X.2.2 200))] [] := by
      refine z_aload_n S dX10_image_32 rfl 0 rfl ?_
      refine z_iconst (v := 1) S dX10_image_33 (by decide) ?_
      refine z_putIb S fo_RX10_351p rfl ok_200 rfl rfl he dX10_image_34 (fun M4 he => ?_)
      exact z_vret S (Option.some.inj he) dX10_image_37
    exact loopZ (Zh := (fun a_3 => Z X 1 p l e rm_X10_image s m args below meth c 0 0 (MQ below (QV X 1 N s.heap.size) args s 0 0 (AA X 1 s.heap.size)) 2 a_3.1 7 [(0, .ref (X.2.2 200)), (1, .int a_3.2)] [])) (fun a_3 x hb hc hr => p_X10_image_L7 S  hb hc (fun b hxe => by rw [hr b hxe]; exact hX)) FU _ hl
set_option maxRecDepth 100000 in
set_option maxHeartbeats 4000000 in
theorem K_X10_logged {X : Cx} {l : Launch} {M : Mm} {a1 : Int32} {a2 : Int32} {r : Int32}  (he : f_X10_logged M a1 a2 = some r) : KI X 1 l yX10_logged (wz yX10_logged cX10_logged 3 (some .int)) rm_X10_logged [.ref (X.2.2 200), .int a1, .int a2] M r M := by
  intro sz
  refine K_of (Qc := (fun sz => QI X 1 r M sz)) (own := RX10) (lv0 := [(0, .ref (X.2.2 200)), (1, .int a1), (2, .int a2)]) (by decide +kernel) rfl (Nat.le_of_ble_eq_true rfl) rfl (fun p e s m args below meth c S => ?_) sz
  · unfold f_X10_logged at he
    refine z_aload_n S dX10_logged_0 rfl 0 rfl ?_
    refine z_getF (j := 201) S fo_RX10_7 1 rfl rfl ok_200 dX10_logged_1 ?_
    refine z_bipush (v := 107) S dX10_logged_4 (by decide) ?_
    refine z_iconst (v := 5) S dX10_logged_6 (by decide) ?_
    refine z_iload_n S dX10_logged_7 rfl 1 rfl ?_
    refine z_imul S dX10_logged_8 ?_
    refine z_iadd S dX10_logged_9 ?_
    refine z_iload_n S dX10_logged_10 rfl 2 rfl ?_
    refine z_iadd S dX10_logged_11 ?_
    refine z_iald S ok_201 rfl he dX10_logged_12 (fun he => ?_)
    exact z_iret S (⟨Option.some.inj he, rfl⟩) dX10_logged_13
set_option maxRecDepth 100000 in
set_option maxHeartbeats 4000000 in
theorem p_X10_rowsOf_J5_49 {X : Cx} {p : Program} {l : Launch} {e : Env} {s : State} {m : MethodId} {args : Array Value} {below : List Frame} {meth : Method} {c : Code} (S : SB X 1 p s m args meth c cX10_rowsOf 5 (some .int) RX10) {M : Mm} {r : Int32} {v1 : Int32} {v2 : Int32} {v4 : Int32} {t0 : Int32} {x : (Int32 × Int32) ⊕ Int32}  (he : f_X10_rowsOf_J5_49 M v1 v2 v4 t0 = some x) (hc : ∀ b, x = .inl b → Z X 1 p l e rm_X10_rowsOf s m args below meth c 0 0 (MQ below (QI X 1 r M s.heap.size) args s 0 0 (AA X 1 s.heap.size)) 5 M 5 [(0, .ref (X.2.2 200)), (1, .int v1), (2, .int v2), (3, .int b.1), (4, .int b.2)] []) (hx : ∀ b, x = .inr b → Z X 1 p l e rm_X10_rowsOf s m args below meth c 0 0 (MQ below (QI X 1 r M s.heap.size) args s 0 0 (AA X 1 s.heap.size)) 5 M 58 [(3, .int b)] []) : Z X 1 p l e rm_X10_rowsOf s m args below meth c 0 0 (MQ below (QI X 1 r M s.heap.size) args s 0 0 (AA X 1 s.heap.size)) 5 M 49 [(0, .ref (X.2.2 200)), (1, .int v1), (2, .int v2), (4, .int v4)] [.int t0] := by
  unfold f_X10_rowsOf_J5_49 at he
  refine z_iconst (v := 0) S dX10_rowsOf_49 (by decide) ?_
  refine z_iadd S dX10_rowsOf_50 ?_
  refine z_istore_n (lv' := [(0, .ref (X.2.2 200)), (1, .int v1), (2, .int v2), (3, .int (t0 + 0)), (4, .int v4)]) S [1, 2, 3, 0, 4] dX10_rowsOf_51 rfl (by decide) rfl ?_
  refine z_iinc (v := (v4 + 1)) (lv' := [(0, .ref (X.2.2 200)), (1, .int v1), (2, .int v2), (3, .int (t0 + 0)), (4, .int (v4 + 1))]) S [1, 2, 3, 4, 0] 4 dX10_rowsOf_52 rfl (by rfl) (by decide) rfl ?_
  refine z_goto (tgt := 5) S dX10_rowsOf_55 (by decide) ?_
  refine z_lv (ks := [0, 1, 2, 3, 4]) rfl ?_
  exact hc _ (Option.some.inj he).symm
set_option maxRecDepth 100000 in
set_option maxHeartbeats 4000000 in
theorem p_X10_rowsOf_J5_45 {X : Cx} {p : Program} {l : Launch} {e : Env} {s : State} {m : MethodId} {args : Array Value} {below : List Frame} {meth : Method} {c : Code} (S : SB X 1 p s m args meth c cX10_rowsOf 5 (some .int) RX10) {M : Mm} {r : Int32} {v1 : Int32} {v2 : Int32} {v4 : Int32} {t0 : Int32} {x : (Int32 × Int32) ⊕ Int32}  (he : f_X10_rowsOf_J5_45 M v1 v2 v4 t0 = some x) (hc : ∀ b, x = .inl b → Z X 1 p l e rm_X10_rowsOf s m args below meth c 0 0 (MQ below (QI X 1 r M s.heap.size) args s 0 0 (AA X 1 s.heap.size)) 5 M 5 [(0, .ref (X.2.2 200)), (1, .int v1), (2, .int v2), (3, .int b.1), (4, .int b.2)] []) (hx : ∀ b, x = .inr b → Z X 1 p l e rm_X10_rowsOf s m args below meth c 0 0 (MQ below (QI X 1 r M s.heap.size) args s 0 0 (AA X 1 s.heap.size)) 5 M 58 [(3, .int b)] []) : Z X 1 p l e rm_X10_rowsOf s m args below meth c 0 0 (MQ below (QI X 1 r M s.heap.size) args s 0 0 (AA X 1 s.heap.size)) 5 M 45 [(0, .ref (X.2.2 200)), (1, .int v1), (2, .int v2), (4, .int v4)] [.int t0] := by
  unfold f_X10_rowsOf_J5_45 at he
  refine z_iconst (v := 1) S dX10_rowsOf_45 (by decide) ?_
  refine z_goto (tgt := 50) S dX10_rowsOf_46 (by decide) ?_
  refine z_iadd S dX10_rowsOf_50 ?_
  refine z_istore_n (lv' := [(0, .ref (X.2.2 200)), (1, .int v1), (2, .int v2), (3, .int (t0 + 1)), (4, .int v4)]) S [1, 2, 3, 0, 4] dX10_rowsOf_51 rfl (by decide) rfl ?_
  refine z_iinc (v := (v4 + 1)) (lv' := [(0, .ref (X.2.2 200)), (1, .int v1), (2, .int v2), (3, .int (t0 + 1)), (4, .int (v4 + 1))]) S [1, 2, 3, 4, 0] 4 dX10_rowsOf_52 rfl (by rfl) (by decide) rfl ?_
  refine z_goto (tgt := 5) S dX10_rowsOf_55 (by decide) ?_
  refine z_lv (ks := [0, 1, 2, 3, 4]) rfl ?_
  exact hc _ (Option.some.inj he).symm
set_option maxRecDepth 100000 in
set_option maxHeartbeats 4000000 in
theorem p_X10_rowsOf_L5 {X : Cx} {p : Program} {l : Launch} {e : Env} {s : State} {m : MethodId} {args : Array Value} {below : List Frame} {meth : Method} {c : Code} (S : SB X 1 p s m args meth c cX10_rowsOf 5 (some .int) RX10) {M : Mm} {r : Int32} {v1 : Int32} {v2 : Int32} {v3 : Int32} {v4 : Int32} {x : (Int32 × Int32) ⊕ Int32}  (he : f_X10_rowsOf_L5 M v1 v2 v3 v4 = some x) (hc : ∀ b, x = .inl b → Z X 1 p l e rm_X10_rowsOf s m args below meth c 0 0 (MQ below (QI X 1 r M s.heap.size) args s 0 0 (AA X 1 s.heap.size)) 5 M 5 [(0, .ref (X.2.2 200)), (1, .int v1), (2, .int v2), (3, .int b.1), (4, .int b.2)] []) (hx : ∀ b, x = .inr b → Z X 1 p l e rm_X10_rowsOf s m args below meth c 0 0 (MQ below (QI X 1 r M s.heap.size) args s 0 0 (AA X 1 s.heap.size)) 5 M 58 [(3, .int b)] []) : Z X 1 p l e rm_X10_rowsOf s m args below meth c 0 0 (MQ below (QI X 1 r M s.heap.size) args s 0 0 (AA X 1 s.heap.size)) 5 M 5 [(0, .ref (X.2.2 200)), (1, .int v1), (2, .int v2), (3, .int v3), (4, .int v4)] [] := by
  unfold f_X10_rowsOf_L5 at he
  refine z_iload S dX10_rowsOf_5 4 rfl ?_
  refine z_aload_n S dX10_rowsOf_7 rfl 0 rfl ?_
  refine z_getF (j := 201) S fo_RX10_7 1 rfl rfl ok_200 dX10_rowsOf_8 ?_
  refine z_bipush (v := 8) S dX10_rowsOf_11 (by decide) ?_
  refine z_iald S ok_201 rfl he dX10_rowsOf_13 (fun he => ?_)
  refine z_icmp_ge (tgt := 58) S he dX10_rowsOf_14 (by decide) (fun he => ?_) (fun he => ?_)
  · refine z_lv (ks := [3]) rfl ?_
    exact hx _ (Option.some.inj he).symm
  · refine z_iload_n S dX10_rowsOf_17 rfl 3 rfl ?_
    refine z_aload_n S dX10_rowsOf_18 rfl 0 rfl ?_
    refine z_iload S dX10_rowsOf_19 4 rfl ?_
    refine z_iconst (v := 2) S dX10_rowsOf_21 (by decide) ?_
    obtain ⟨r1, h9, he⟩ := bnd he
    refine z_cVI (As := [.int v4, .int 2]) S cv_RX10_345 (K_X10_logged  h9) ok_200 (by decide) (q := (RX10, TX10, 28)) rfl rfl ⟨rfl, rfl⟩ ⟨Nat.le_of_ble_eq_true rfl, Nat.le_of_ble_eq_true rfl⟩ ⟨Nat.le_refl _, Nat.le_refl _⟩ rfl rfl (Nat.le_of_ble_eq_true rfl) dX10_rowsOf_22 ?_
    refine z_iload_n S dX10_rowsOf_25 rfl 1 rfl ?_
    refine z_icmp_ne (tgt := 49) S he dX10_rowsOf_26 (by decide) (fun he => ?_) (fun he => ?_)
    · refine z_lv (ks := [0, 1, 2, 4]) rfl ?_
      exact p_X10_rowsOf_J5_49 S  he hc hx
    · refine z_iload_n S dX10_rowsOf_29 rfl 2 rfl ?_
      refine z_iconst (v := (-1)) S dX10_rowsOf_30 (by decide) ?_
      refine z_icmp_eq (tgt := 45) S he dX10_rowsOf_31 (by decide) (fun he => ?_) (fun he => ?_)
      · refine z_lv (ks := [0, 1, 2, 4]) rfl ?_
        exact p_X10_rowsOf_J5_45 S  he hc hx
      · refine z_aload_n S dX10_rowsOf_34 rfl 0 rfl ?_
        refine z_iload S dX10_rowsOf_35 4 rfl ?_
        refine z_iconst (v := 1) S dX10_rowsOf_37 (by decide) ?_
        obtain ⟨r2, h9, he⟩ := bnd he
        refine z_cVI (As := [.int v4, .int 1]) S cv_RX10_345 (K_X10_logged  h9) ok_200 (by decide) (q := (RX10, TX10, 28)) rfl rfl ⟨rfl, rfl⟩ ⟨Nat.le_of_ble_eq_true rfl, Nat.le_of_ble_eq_true rfl⟩ ⟨Nat.le_refl _, Nat.le_refl _⟩ rfl rfl (Nat.le_of_ble_eq_true rfl) dX10_rowsOf_38 ?_
        refine z_iload_n S dX10_rowsOf_41 rfl 2 rfl ?_
        refine z_icmp_ne (tgt := 49) S he dX10_rowsOf_42 (by decide) (fun he => ?_) (fun he => ?_)
        · refine z_lv (ks := [0, 1, 2, 4]) rfl ?_
          exact p_X10_rowsOf_J5_49 S  he hc hx
        · refine z_lv (ks := [0, 1, 2, 4]) rfl ?_
          exact p_X10_rowsOf_J5_45 S  he hc hx
set_option maxRecDepth 100000 in
set_option maxHeartbeats 4000000 in
theorem K_X10_rowsOf {X : Cx} {l : Launch} {M : Mm} {a1 : Int32} {a2 : Int32} {r : Int32}  (he : f_X10_rowsOf M a1 a2 = some r) : KI X 1 l yX10_rowsOf (wz yX10_rowsOf cX10_rowsOf 5 (some .int)) rm_X10_rowsOf [.ref (X.2.2 200), .int a1, .int a2] M r M := by
  intro sz
  refine K_of (Qc := (fun sz => QI X 1 r M sz)) (own := RX10) (lv0 := [(0, .ref (X.2.2 200)), (1, .int a1), (2, .int a2)]) (by decide +kernel) rfl (Nat.le_of_ble_eq_true rfl) rfl (fun p e s m args below meth c S => ?_) sz
  · unfold f_X10_rowsOf at he
    refine z_iconst (v := 0) S dX10_rowsOf_0 (by decide) ?_
    refine z_istore_n (lv' := [(0, .ref (X.2.2 200)), (1, .int a1), (2, .int a2), (3, .int 0)]) S [1, 2, 3, 0] dX10_rowsOf_1 rfl (by decide) rfl ?_
    refine z_iconst (v := 0) S dX10_rowsOf_2 (by decide) ?_
    refine z_istore (lv' := [(0, .ref (X.2.2 200)), (1, .int a1), (2, .int a2), (3, .int 0), (4, .int 0)]) S [1, 2, 3, 4, 0] dX10_rowsOf_3 (by decide) rfl ?_
    obtain ⟨e_3, hl, he⟩ := bnd he
    have hX : Z X 1 p l e rm_X10_rowsOf s m args below meth c 0 0 (MQ below (QI X 1 r M s.heap.size) args s 0 0 (AA X 1 s.heap.size)) 5 M 58 [(3, .int e_3)] [] := by
      refine z_iload_n S dX10_rowsOf_58 rfl 0 rfl ?_
      exact z_iret S (⟨Option.some.inj he, rfl⟩) dX10_rowsOf_59
    exact loopZ (Zh := (fun a_3 => Z X 1 p l e rm_X10_rowsOf s m args below meth c 0 0 (MQ below (QI X 1 r M s.heap.size) args s 0 0 (AA X 1 s.heap.size)) 5 M 5 [(0, .ref (X.2.2 200)), (1, .int a1), (2, .int a2), (3, .int a_3.1), (4, .int a_3.2)] [])) (fun a_3 x hb hc hr => p_X10_rowsOf_L5 S  hb hc (fun b hxe => by rw [hr b hxe]; exact hX)) FU _ hl
set_option maxRecDepth 100000 in
set_option maxHeartbeats 4000000 in
theorem p_X10_led_J42_75 {X : Cx} {p : Program} {l : Launch} {e : Env} {s : State} {m : MethodId} {args : Array Value} {below : List Frame} {meth : Method} {c : Code} (S : SB X 1 p s m args meth c cX10_led 5 (some .int) RX10) {M : Mm} {N : Mm} {r : Int32} {v1 : Int32} {v3 : Int32} {v4 : Int32} {t0 : Int32} {t1 : Int32} {x : (Int32 × Int32) ⊕ Int32}  (he : f_X10_led_J42_75 M v1 v3 v4 t0 t1 = some x) (hc : ∀ b, x = .inl b → Z X 1 p l e rm_X10_led s m args below meth c 0 0 (MQ below (QI X 1 r N s.heap.size) args s 0 0 (AA X 1 s.heap.size)) 5 M 42 [(0, .ref (X.2.2 200)), (1, .int v1), (3, .int b.1), (4, .int b.2)] []) (hx : ∀ b, x = .inr b → Z X 1 p l e rm_X10_led s m args below meth c 0 0 (MQ below (QI X 1 r N s.heap.size) args s 0 0 (AA X 1 s.heap.size)) 5 M 87 [(3, .int b)] []) : Z X 1 p l e rm_X10_led s m args below meth c 0 0 (MQ below (QI X 1 r N s.heap.size) args s 0 0 (AA X 1 s.heap.size)) 5 M 75 [(0, .ref (X.2.2 200)), (1, .int v1), (3, .int v3), (4, .int v4)] [.int t0, .int t1] := by
  unfold f_X10_led_J42_75 at he
  refine z_icmp_le (tgt := 81) S he dX10_led_75 (by decide) (fun he => ?_) (fun he => ?_)
  · refine z_iinc (v := (v4 + 1)) (lv' := [(0, .ref (X.2.2 200)), (1, .int v1), (3, .int v3), (4, .int (v4 + 1))]) S [1, 2, 3, 0] 3 dX10_led_81 rfl (by rfl) (by decide) rfl ?_
    refine z_goto (tgt := 42) S dX10_led_84 (by decide) ?_
    refine z_lv (ks := [0, 1, 2, 3]) rfl ?_
    exact hc _ (Option.some.inj he).symm
  · refine z_iload S dX10_led_78 3 rfl ?_
    refine z_istore_n (lv' := [(0, .ref (X.2.2 200)), (1, .int v1), (3, .int v4), (4, .int v4)]) S [1, 2, 0, 3] dX10_led_80 rfl (by decide) rfl ?_
    refine z_iinc (v := (v4 + 1)) (lv' := [(0, .ref (X.2.2 200)), (1, .int v1), (3, .int v4), (4, .int (v4 + 1))]) S [1, 2, 3, 0] 3 dX10_led_81 rfl (by rfl) (by decide) rfl ?_
    refine z_goto (tgt := 42) S dX10_led_84 (by decide) ?_
    refine z_lv (ks := [0, 1, 2, 3]) rfl ?_
    exact hc _ (Option.some.inj he).symm
set_option maxRecDepth 100000 in
set_option maxHeartbeats 4000000 in
theorem p_X10_led_L42 {X : Cx} {p : Program} {l : Launch} {e : Env} {s : State} {m : MethodId} {args : Array Value} {below : List Frame} {meth : Method} {c : Code} (S : SB X 1 p s m args meth c cX10_led 5 (some .int) RX10) {M : Mm} {N : Mm} {r : Int32} {v1 : Int32} {v3 : Int32} {v4 : Int32} {x : (Int32 × Int32) ⊕ Int32}  (he : f_X10_led_L42 M v1 v3 v4 = some x) (hc : ∀ b, x = .inl b → Z X 1 p l e rm_X10_led s m args below meth c 0 0 (MQ below (QI X 1 r N s.heap.size) args s 0 0 (AA X 1 s.heap.size)) 5 M 42 [(0, .ref (X.2.2 200)), (1, .int v1), (3, .int b.1), (4, .int b.2)] []) (hx : ∀ b, x = .inr b → Z X 1 p l e rm_X10_led s m args below meth c 0 0 (MQ below (QI X 1 r N s.heap.size) args s 0 0 (AA X 1 s.heap.size)) 5 M 87 [(3, .int b)] []) : Z X 1 p l e rm_X10_led s m args below meth c 0 0 (MQ below (QI X 1 r N s.heap.size) args s 0 0 (AA X 1 s.heap.size)) 5 M 42 [(0, .ref (X.2.2 200)), (1, .int v1), (3, .int v3), (4, .int v4)] [] := by
  unfold f_X10_led_L42 at he
  refine z_iload S dX10_led_42 3 rfl ?_
  refine z_aload_n S dX10_led_44 rfl 0 rfl ?_
  refine z_getF (j := 201) S fo_RX10_7 1 rfl rfl ok_200 dX10_led_45 ?_
  refine z_iconst (v := 4) S dX10_led_48 (by decide) ?_
  refine z_iald S ok_201 rfl he dX10_led_49 (fun he => ?_)
  refine z_icmp_ge (tgt := 87) S he dX10_led_50 (by decide) (fun he => ?_) (fun he => ?_)
  · refine z_lv (ks := [2]) rfl ?_
    exact hx _ (Option.some.inj he).symm
  · refine z_aload_n S dX10_led_53 rfl 0 rfl ?_
    refine z_iload_n S dX10_led_54 rfl 1 rfl ?_
    refine z_iload S dX10_led_55 3 rfl ?_
    obtain ⟨r3, h9, he⟩ := bnd he
    refine z_cVI (As := [.int v1, .int v4]) S cv_RX10_348 (K_X10_rowsOf  h9) ok_200 (by decide) (q := (RX10, TX10, 28)) rfl rfl ⟨rfl, rfl⟩ ⟨Nat.le_of_ble_eq_true rfl, Nat.le_of_ble_eq_true rfl⟩ ⟨Nat.le_refl _, Nat.le_refl _⟩ rfl rfl (Nat.le_of_ble_eq_true rfl) dX10_led_57 ?_
    refine z_iload_n S dX10_led_60 rfl 2 rfl ?_
    refine z_iconst (v := (-1)) S dX10_led_61 (by decide) ?_
    refine z_icmp_ne (tgt := 69) S he dX10_led_62 (by decide) (fun he => ?_) (fun he => ?_)
    · refine z_aload_n S dX10_led_69 rfl 0 rfl ?_
      refine z_iload_n S dX10_led_70 rfl 1 rfl ?_
      refine z_iload_n S dX10_led_71 rfl 2 rfl ?_
      obtain ⟨r4, h9, he⟩ := bnd he
      refine z_cVI (As := [.int v1, .int v3]) S cv_RX10_348 (K_X10_rowsOf  h9) ok_200 (by decide) (q := (RX10, TX10, 28)) rfl rfl ⟨rfl, rfl⟩ ⟨Nat.le_of_ble_eq_true rfl, Nat.le_of_ble_eq_true rfl⟩ ⟨Nat.le_refl _, Nat.le_refl _⟩ rfl rfl (Nat.le_of_ble_eq_true rfl) dX10_led_72 ?_
      exact p_X10_led_J42_75 S  he hc hx
    · refine z_iconst (v := 0) S dX10_led_65 (by decide) ?_
      refine z_goto (tgt := 75) S dX10_led_66 (by decide) ?_
      exact p_X10_led_J42_75 S  he hc hx
set_option maxRecDepth 100000 in
set_option maxHeartbeats 4000000 in
theorem p_X10_led_J14 {X : Cx} {p : Program} {l : Launch} {e : Env} {s : State} {m : MethodId} {args : Array Value} {below : List Frame} {meth : Method} {c : Code} (S : SB X 1 p s m args meth c cX10_led 5 (some .int) RX10) {M : Mm} {N : Mm} {r : Int32} {v1 : Int32} {v2 : Int32} {t0 : Int32}  (he : f_X10_led_J14 M v1 v2 t0 = some (r, N)) : Z X 1 p l e rm_X10_led s m args below meth c 0 0 (MQ below (QI X 1 r N s.heap.size) args s 0 0 (AA X 1 s.heap.size)) 5 M 14 [(0, .ref (X.2.2 200)), (1, .int v1), (2, .int v2)] [.int t0, .ref (X.2.2 200)] := by
  unfold f_X10_led_J14 at he
  refine z_putIb S fo_RX10_63p rfl ok_200 rfl rfl he dX10_led_14 (fun M2 he => ?_)
  refine z_aload_n S dX10_led_17 rfl 0 rfl ?_
  refine z_getI S fo_RX10_63 rfl ok_200 dX10_led_18 ?_
  refine z_if_le (tgt := 26) S he dX10_led_21 (by decide) (fun he => ?_) (fun he => ?_)
  · refine z_iload_n S dX10_led_26 rfl 2 rfl ?_
    refine z_if_ne (tgt := 37) S he dX10_led_27 (by decide) (fun he => ?_) (fun he => ?_)
    · refine z_iconst (v := (-1)) S dX10_led_37 (by decide) ?_
      refine z_istore_n (lv' := [(0, .ref (X.2.2 200)), (1, .int v1), (3, .int (-1))]) S [1, 2, 0] dX10_led_38 rfl (by decide) rfl ?_
      refine z_iconst (v := 0) S dX10_led_39 (by decide) ?_
      refine z_istore (lv' := [(0, .ref (X.2.2 200)), (1, .int v1), (3, .int (-1)), (4, .int 0)]) S [1, 2, 3, 0] dX10_led_40 (by decide) rfl ?_
      obtain ⟨e_5, hl, he⟩ := bnd he
      have hX : Z X 1 p l e rm_X10_led s m args below meth c 0 0 (MQ below (QI X 1 r N s.heap.size) args s 0 0 (AA X 1 s.heap.size)) 5 M2 87 [(3, .int e_5)] [] := by
        refine z_iload_n S dX10_led_87 rfl 0 rfl ?_
        exact z_iret S (Prod.mk.inj (Option.some.inj he)) dX10_led_88
      exact loopZ (Zh := (fun a_5 => Z X 1 p l e rm_X10_led s m args below meth c 0 0 (MQ below (QI X 1 r N s.heap.size) args s 0 0 (AA X 1 s.heap.size)) 5 M2 42 [(0, .ref (X.2.2 200)), (1, .int v1), (3, .int a_5.1), (4, .int a_5.2)] [])) (fun a_5 x hb hc hr => p_X10_led_L42 S  hb hc (fun b hxe => by rw [hr b hxe]; exact hX)) FU _ hl
    · refine z_aload_n S dX10_led_30 rfl 0 rfl ?_
      refine z_iload_n S dX10_led_31 rfl 1 rfl ?_
      refine z_iconst (v := (-1)) S dX10_led_32 (by decide) ?_
      obtain ⟨r6, h9, he⟩ := bnd he
      refine z_cVI (As := [.int v1, .int (-1)]) S cv_RX10_348 (K_X10_rowsOf  h9) ok_200 (by decide) (q := (RX10, TX10, 28)) rfl rfl ⟨rfl, rfl⟩ ⟨Nat.le_of_ble_eq_true rfl, Nat.le_of_ble_eq_true rfl⟩ ⟨Nat.le_refl _, Nat.le_refl _⟩ rfl rfl (Nat.le_of_ble_eq_true rfl) dX10_led_33 ?_
      exact z_iret S (Prod.mk.inj (Option.some.inj he)) dX10_led_36
  · refine z_iconst (v := 0) S dX10_led_24 (by decide) ?_
    exact z_iret S (Prod.mk.inj (Option.some.inj he)) dX10_led_25
set_option maxRecDepth 100000 in
set_option maxHeartbeats 4000000 in
theorem K_X10_led {X : Cx} {l : Launch} {M : Mm} {a1 : Int32} {a2 : Int32} {r : Int32} {N : Mm}  (he : f_X10_led M a1 a2 = some (r, N)) : KI X 1 l yX10_led (wz yX10_led cX10_led 5 (some .int)) rm_X10_led [.ref (X.2.2 200), .int a1, .int a2] M r N := by
  intro sz
  refine K_of (Qc := (fun sz => QI X 1 r N sz)) (own := RX10) (lv0 := [(0, .ref (X.2.2 200)), (1, .int a1), (2, .int a2)]) (by decide +kernel) rfl (Nat.le_of_ble_eq_true rfl) rfl (fun p e s m args below meth c S => ?_) sz
  · unfold f_X10_led at he
    refine z_aload_n S dX10_led_0 rfl 0 rfl ?_
    refine z_aload_n S dX10_led_1 rfl 0 rfl ?_
    refine z_iload_n S dX10_led_2 rfl 1 rfl ?_
    obtain ⟨r1, h9, he⟩ := bnd he
    refine z_cVI (As := [.int a1]) S cv_RX10_285 (K_X10_isThing  h9) ok_200 (by decide) (q := (RX10, TX10, 28)) rfl rfl ⟨rfl, rfl⟩ ⟨Nat.le_of_ble_eq_true rfl, Nat.le_of_ble_eq_true rfl⟩ ⟨Nat.le_refl _, Nat.le_refl _⟩ rfl rfl (Nat.le_of_ble_eq_true rfl) dX10_led_3 ?_
    refine z_ifb_ne (tgt := 13) S he dX10_led_6 (by decide) (fun he => ?_) (fun he => ?_)
    · refine z_iconst (v := 0) S dX10_led_13 (by decide) ?_
      exact p_X10_led_J14 S  he
    · refine z_iconst (v := 1) S dX10_led_9 (by decide) ?_
      refine z_goto (tgt := 14) S dX10_led_10 (by decide) ?_
      exact p_X10_led_J14 S  he
