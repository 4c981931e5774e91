/-! the check of an index, of texts -/
def rm_J3_checkIndex_8e157 : Room := rmz 0 0
def rm_J0_checkIndex_df160 : Room := rmz 1 40
def f_J0_checkIndex_df160 (M : Mm) (a0 a1 : Int32) : Option Unit := if a0 < 0 then none else if a0 < a1 then some () else none
theorem K_J3_checkIndex_8e157 {X : Cx} {w : Nat} {l : Launch} {M : Mm} {a0 a1 : Int32} {v : Value} (hv : v = .null ∨ ∃ t, v = .ref t) (h0 : ¬ a0 < 0) (h1 : a0 < a1) : KI X w l yJ3_checkIndex_8e157 (wz yJ3_checkIndex_8e157 cJ3_checkIndex_8e157 3 (some .int)) rm_J3_checkIndex_8e157 [.int a0, .int a1, v] M a0 M := by
  intro sz
  rcases hv with rfl | ⟨t, rfl⟩
  all_goals
    refine K_of (Qc := (fun sz => QI X w a0 M sz)) (own := RJ3) (by decide +kernel) rfl (Nat.le_of_ble_eq_true rfl) rfl (fun p e s m args below meth c S => ?_) sz
    refine z_iload_n S dJ3_checkIndex_8e157_0 rfl 0 rfl ?_
    refine z_if_lt (tgt := 9) (A := false) (B := true) (x0 := true) S (if_neg h0) dJ3_checkIndex_8e157_1 (by decide) (fun he => nomatch he) (fun _ => ?_)
    refine z_iload_n S dJ3_checkIndex_8e157_4 rfl 0 rfl ?_
    refine z_iload_n S dJ3_checkIndex_8e157_5 rfl 1 rfl ?_
    refine z_icmp_lt (tgt := 16) (A := true) (B := false) (x0 := true) S (if_pos h1) dJ3_checkIndex_8e157_6 (by decide) (fun _ => ?_) (fun he => nomatch he)
    refine z_iload_n S dJ3_checkIndex_8e157_16 rfl 0 rfl ?_
    exact z_iret S ⟨rfl, rfl⟩ dJ3_checkIndex_8e157_17
theorem CSchk : CS RJ0 1059 yJ3_checkIndex_8e157 cJ3_checkIndex_8e157 3 3 (some .int) := ⟨TB_of (mt_3 (i := 147) (by decide +kernel)) (by decide +kernel), TB_of (mt_3 (i := 145) (by decide +kernel)) (by decide +kernel), TB_of (mt_3 (i := 146) (by decide +kernel)) (by decide +kernel), TB_of (mt_1 (i := 16) (by decide +kernel)) (by decide +kernel), by decide, by decide, by decide +kernel⟩
theorem K_J0_checkIndex_df160 {X : Cx} {w : Nat} {l : Launch} {M : Mm} {a0 a1 : Int32} {u : Unit} (he : f_J0_checkIndex_df160 M a0 a1 = some u) : KV X w l yJ0_checkIndex_df160 (wz yJ0_checkIndex_df160 cJ0_checkIndex_df160 2 none) rm_J0_checkIndex_df160 [.int a0, .int a1] M M := by
  intro sz
  unfold f_J0_checkIndex_df160 at he
  rcases z_sw he with ⟨_, he⟩ | ⟨h0, he⟩
  · cases he
  obtain ⟨h1, he⟩ := grd he
  cases he
  refine K_of (Qc := (fun sz => QV X w M sz)) (own := RJ0) (by decide +kernel) rfl (Nat.le_of_ble_eq_true rfl) rfl (fun p e s m args below meth c S => ?_) sz
  refine z_iload_n S dJ0_checkIndex_df160_0 rfl 0 rfl ?_
  refine z_iload_n S dJ0_checkIndex_df160_1 rfl 1 rfl ?_
  have go : ∀ v : Value, (v = .null ∨ ∃ t, v = .ref t) → Z X w p l e rm_J0_checkIndex_df160 s m args below meth c 0 0 (MQ below (QV X w M s.heap.size) args s 0 0 (AA X w s.heap.size)) 2 M 5 [(0, .int a0), (1, .int a1)] [v, .int a1, .int a0] := by
    intro v hv
    refine z_cSI (As := [.int a0, .int a1, v]) (rest := []) S CSchk (K_J3_checkIndex_8e157 hv h0 h1) ⟨rfl, rfl⟩ ⟨Nat.le_of_ble_eq_true rfl, Nat.le_of_ble_eq_true rfl⟩ ⟨Nat.le_of_ble_eq_true rfl, Nat.le_of_ble_eq_true rfl⟩ rfl rfl (Nat.le_of_ble_eq_true rfl) dJ0_checkIndex_df160_5 ?_
    refine z_pop S rfl dJ0_checkIndex_df160_8 ?_
    exact z_vret S rfl dJ0_checkIndex_df160_9
  have hl : Cond.fieldLink RJ0 1053 "jdk/internal/util/Preconditions" "SIOOBE_FORMATTER" "Ljava/util/function/BiFunction;" ∈ TB := TB_of (mt_3 (i := 143) (by decide +kernel)) (by decide +kernel)
  intro H locs ls h1 h2 h3
  rcases S.sta.2.2.2.2.2.2.2.2 with hz | ⟨t, hz⟩
  · exact va_gets S.1.1 S.1.2.1 hz h2 S.1.2.2.2.1 (S.1.2.2.2.2 _ hl) (fun _ h => h) dJ0_checkIndex_df160_2 (go _ (Or.inl rfl) H locs ls h1 h2 h3)
  · exact va_gets S.1.1 S.1.2.1 hz h2 S.1.2.2.2.1 (S.1.2.2.2.2 _ hl) (fun _ h => h) dJ0_checkIndex_df160_2 (go _ (Or.inr ⟨t, rfl⟩) H locs ls h1 h2 h3)
