set_option maxRecDepth 100000 in
set_option maxHeartbeats 4000000 in
theorem LC_21 {X : Cx} {p : Program} {l : Launch} {e : Env} {s : State} {m : MethodId} {args : Array Value} {below : List Frame} {meth : Method} {c : Code} {cells slots : Nat} {Q : State → Prop} {b L : Nat} {xs : Nat → Int32} (hl0 : l.stackTraces = false) (S : SB X 3 p s m args meth c cL_law_ 7 ret RL) (hNC : NCF s) (hX : va_X b L xs s s.heap) (hbl : b < s.heap.size) (hbA : ¬ AA X 3 s.heap.size b) {i : Int32} (hin1 : ibs (i + 1) L = true) (hin2 : ibs (i + 2) L = true) (hin3 : ibs (i + 3) L = true) (hin4 : ibs (i + 4) L = true) (hin5 : ibs (i + 5) L = true) (hcs0 : cells ≤ room_1.cells ∧ slots ≤ room_1.slots) (hcs1 : cells + 3 ≤ room_1.cells ∧ slots + 18 ≤ room_1.slots) {Mc Mr Nc Nr : Mm} {g : Nat → Int64} (hs : so_21 (xs (i + 1).toNatClampNeg) (xs (i + 2).toNatClampNeg) (xs (i + 3).toNatClampNeg) (xs (i + 4).toNatClampNeg) (xs (i + 5).toNatClampNeg) Mc Mr Nc Nr) (kk : ∀ g2, Z X 3 p l e room_1 s m args below meth c (cells + 3) (slots + 18) Q 7 (mk3 Nc Nr g2) 2391 [(0, .ref b), (1, .ref (X.2.2 1)), (2, .ref (X.2.2 109)), (3, .ref (X.2.2 108)), (4, .int i)] []) : Z X 3 p l e room_1 s m args below meth c cells slots Q 7 (mk3 Mc Mr g) 1278 [(0, .ref b), (1, .ref (X.2.2 1)), (2, .ref (X.2.2 109)), (3, .ref (X.2.2 108)), (4, .int i)] [] := by
  obtain ⟨rx, v, he, hm, hok⟩ := hs
  by_cases hx2 : xs (i + 2).toNatClampNeg = 0
  · rw [show nb (xs (i + 2).toNatClampNeg) = 0 from if_pos hx2] at he hm
    refine z_aload_n S dL_law__1278 rfl 1 rfl ?_
    refine z_aload_n S dL_law__1279 rfl 0 rfl ?_
    refine z_iload S dL_law__1280 4 rfl ?_
    refine z_iconst (v := 1) S dL_law__1282 (by decide) ?_
    refine z_iadd S dL_law__1283 ?_
    refine z_sld S hX hbl hbA hin1 dL_law__1284 ?_
    refine z_aload_n S dL_law__1285 rfl 0 rfl ?_
    refine z_iload S dL_law__1286 4 rfl ?_
    refine z_iconst (v := 2) S dL_law__1288 (by decide) ?_
    refine z_iadd S dL_law__1289 ?_
    refine z_sld S hX hbl hbA hin2 dL_law__1290 ?_
    refine z_if_eq (tgt := 1298) (A := true) (B := false) (x0 := true) S (if_pos hx2) dL_law__1291 (by decide) (fun _ => ?_) (fun he => nomatch he)
    refine z_iconst (v := 0) S dL_law__1298 (by decide) ?_
    refine z_aload_n S dL_law__1299 rfl 3 rfl ?_
    obtain ⟨g2, hw, hg2⟩ := okI_wr g hok
    refine z_cW (As := [.ref (X.2.2 1), .int (xs (i + 1).toNatClampNeg), .int 0, .ref (X.2.2 108)]) (rest := []) S hNC cw_RL_195 (K_L_right (Mr := Mr) hl0 he hw) ⟨rfl, rfl⟩ ⟨Nat.le_of_ble_eq_true rfl, Nat.le_of_ble_eq_true rfl⟩ hcs1 rfl rfl (Nat.le_of_ble_eq_true rfl) dL_law__1300 ?_
    refine z_istore (lv' := [(0, .ref b), (1, .ref (X.2.2 1)), (2, .ref (X.2.2 109)), (3, .ref (X.2.2 108)), (4, .int i), (5, .int (gI Nr 109 0))]) S [1, 2, 3, 4, 5, 0] dL_law__1303 (by decide) rfl ?_
    refine z_aload_n S dL_law__1305 rfl 2 rfl ?_
    refine z_aload_n S dL_law__1306 rfl 0 rfl ?_
    refine z_iload S dL_law__1307 4 rfl ?_
    refine z_iconst (v := 1) S dL_law__1309 (by decide) ?_
    refine z_iadd S dL_law__1310 ?_
    refine z_sld S hX hbl hbA hin1 dL_law__1311 ?_
    refine z_aload_n S dL_law__1312 rfl 0 rfl ?_
    refine z_iload S dL_law__1313 4 rfl ?_
    refine z_iconst (v := 2) S dL_law__1315 (by decide) ?_
    refine z_iadd S dL_law__1316 ?_
    refine z_sld S hX hbl hbA hin2 dL_law__1317 ?_
    refine z_if_eq (tgt := 1325) (A := true) (B := false) (x0 := true) S (if_pos hx2) dL_law__1318 (by decide) (fun _ => ?_) (fun he => nomatch he)
    refine z_iconst (v := 0) S dL_law__1325 (by decide) ?_
    refine z_wVI (v := 1) (As := [.int (xs (i + 1).toNatClampNeg), .int 0]) (rest := []) S ⟨by decide, by decide⟩ agr3r mix3r cv_RL_197 (K_X10_right hm) ok3_109 (by decide) (q := (RX10, TX10, 28)) rfl rfl ⟨rfl, rfl⟩ ⟨Nat.le_of_ble_eq_true rfl, Nat.le_of_ble_eq_true rfl⟩ hcs1 rfl rfl (Nat.le_of_ble_eq_true rfl) dL_law__1326 ?_
    refine z_istore (lv' := [(0, .ref b), (1, .ref (X.2.2 1)), (2, .ref (X.2.2 109)), (3, .ref (X.2.2 108)), (4, .int i), (5, .int (gI Nr 109 0)), (6, .int v)]) S [1, 2, 3, 4, 5, 6, 0] dL_law__1329 (by decide) rfl ?_
    refine z_aload_n S dL_law__1331 rfl 2 rfl ?_
    refine z_wVI (v := 1) (As := []) (rest := []) S ⟨by decide, by decide⟩ agr3r mix3r cv_RL_127 (K_X10_thrown (M := Nr) rfl) ok3_109 (by decide) (q := (RX10, TX10, 28)) rfl rfl ⟨rfl, rfl⟩ ⟨Nat.le_of_ble_eq_true rfl, Nat.le_of_ble_eq_true rfl⟩ hcs1 rfl rfl (Nat.le_of_ble_eq_true rfl) dL_law__1332 ?_
    refine z_iload S dL_law__1335 5 rfl ?_
    refine z_icmp_eq (tgt := 1342) (A := true) (B := false) (x0 := true) S (if_pos rfl) dL_law__1337 (by decide) (fun _ => ?_) (fun he => nomatch he)
    refine z_iload S dL_law__1342 5 rfl ?_
    have hfin : Z X 3 p l e room_1 s m args below meth c (cells + 3) (slots + 18) Q 7 (mk3 Nc Nr g2) 1359 [(0, .ref b), (1, .ref (X.2.2 1)), (2, .ref (X.2.2 109)), (3, .ref (X.2.2 108)), (4, .int i), (5, .int (gI Nr 109 0)), (6, .int v)] [] := by
      refine z_goto (tgt := 2391) S dL_law__1359 (by decide) ?_
      refine z_lv (ks := [0, 1, 2, 3, 4]) rfl ?_
      exact kk g2
    by_cases ht : gI Nr 109 0 = 0
    · refine z_if_ne (tgt := 1359) (A := true) (B := false) (x0 := true) S (if_pos ht) dL_law__1344 (by decide) (fun he => nomatch he) (fun _ => ?_)
      refine z_aload_n S dL_law__1347 rfl 3 rfl ?_
      refine z_iconst (v := 0) S dL_law__1348 (by decide) ?_
      refine z_lald (i := 108) (N := 1) (A := some ()) (x0 := ()) S ok3_108 (by decide +kernel) (by decide) dL_law__1349 (fun _ => ?_)
      refine z_iload S dL_law__1350 6 rfl ?_
      refine z_i2l S dL_law__1352 ?_
      refine z_lcmp S dL_law__1353 ?_
      refine z_if_eq (tgt := 1359) (A := true) (B := false) (x0 := true) S (if_pos (lgc_eq (hg2 ht))) dL_law__1354 (by decide) (fun _ => ?_) (fun he => nomatch he)
      exact hfin
    · refine z_if_ne (tgt := 1359) (A := true) (B := false) (x0 := false) S (if_neg ht) dL_law__1344 (by decide) (fun _ => ?_) (fun he => nomatch he)
      exact hfin
  · rw [show nb (xs (i + 2).toNatClampNeg) = 1 from if_neg hx2] at he hm
    refine z_aload_n S dL_law__1278 rfl 1 rfl ?_
    refine z_aload_n S dL_law__1279 rfl 0 rfl ?_
    refine z_iload S dL_law__1280 4 rfl ?_
    refine z_iconst (v := 1) S dL_law__1282 (by decide) ?_
    refine z_iadd S dL_law__1283 ?_
    refine z_sld S hX hbl hbA hin1 dL_law__1284 ?_
    refine z_aload_n S dL_law__1285 rfl 0 rfl ?_
    refine z_iload S dL_law__1286 4 rfl ?_
    refine z_iconst (v := 2) S dL_law__1288 (by decide) ?_
    refine z_iadd S dL_law__1289 ?_
    refine z_sld S hX hbl hbA hin2 dL_law__1290 ?_
    refine z_if_eq (tgt := 1298) (A := true) (B := false) (x0 := false) S (if_neg hx2) dL_law__1291 (by decide) (fun he => nomatch he) (fun _ => ?_)
    refine z_iconst (v := 1) S dL_law__1294 (by decide) ?_
    refine z_goto (tgt := 1299) S dL_law__1295 (by decide) ?_
    refine z_aload_n S dL_law__1299 rfl 3 rfl ?_
    obtain ⟨g2, hw, hg2⟩ := okI_wr g hok
    refine z_cW (As := [.ref (X.2.2 1), .int (xs (i + 1).toNatClampNeg), .int 1, .ref (X.2.2 108)]) (rest := []) S hNC cw_RL_195 (K_L_right (Mr := Mr) hl0 he hw) ⟨rfl, rfl⟩ ⟨Nat.le_of_ble_eq_true rfl, Nat.le_of_ble_eq_true rfl⟩ hcs1 rfl rfl (Nat.le_of_ble_eq_true rfl) dL_law__1300 ?_
    refine z_istore (lv' := [(0, .ref b), (1, .ref (X.2.2 1)), (2, .ref (X.2.2 109)), (3, .ref (X.2.2 108)), (4, .int i), (5, .int (gI Nr 109 0))]) S [1, 2, 3, 4, 5, 0] dL_law__1303 (by decide) rfl ?_
    refine z_aload_n S dL_law__1305 rfl 2 rfl ?_
    refine z_aload_n S dL_law__1306 rfl 0 rfl ?_
    refine z_iload S dL_law__1307 4 rfl ?_
    refine z_iconst (v := 1) S dL_law__1309 (by decide) ?_
    refine z_iadd S dL_law__1310 ?_
    refine z_sld S hX hbl hbA hin1 dL_law__1311 ?_
    refine z_aload_n S dL_law__1312 rfl 0 rfl ?_
    refine z_iload S dL_law__1313 4 rfl ?_
    refine z_iconst (v := 2) S dL_law__1315 (by decide) ?_
    refine z_iadd S dL_law__1316 ?_
    refine z_sld S hX hbl hbA hin2 dL_law__1317 ?_
    refine z_if_eq (tgt := 1325) (A := true) (B := false) (x0 := false) S (if_neg hx2) dL_law__1318 (by decide) (fun he => nomatch he) (fun _ => ?_)
    refine z_iconst (v := 1) S dL_law__1321 (by decide) ?_
    refine z_goto (tgt := 1326) S dL_law__1322 (by decide) ?_
    refine z_wVI (v := 1) (As := [.int (xs (i + 1).toNatClampNeg), .int 1]) (rest := []) S ⟨by decide, by decide⟩ agr3r mix3r cv_RL_197 (K_X10_right hm) ok3_109 (by decide) (q := (RX10, TX10, 28)) rfl rfl ⟨rfl, rfl⟩ ⟨Nat.le_of_ble_eq_true rfl, Nat.le_of_ble_eq_true rfl⟩ hcs1 rfl rfl (Nat.le_of_ble_eq_true rfl) dL_law__1326 ?_
    refine z_istore (lv' := [(0, .ref b), (1, .ref (X.2.2 1)), (2, .ref (X.2.2 109)), (3, .ref (X.2.2 108)), (4, .int i), (5, .int (gI Nr 109 0)), (6, .int v)]) S [1, 2, 3, 4, 5, 6, 0] dL_law__1329 (by decide) rfl ?_
    refine z_aload_n S dL_law__1331 rfl 2 rfl ?_
    refine z_wVI (v := 1) (As := []) (rest := []) S ⟨by decide, by decide⟩ agr3r mix3r cv_RL_127 (K_X10_thrown (M := Nr) rfl) ok3_109 (by decide) (q := (RX10, TX10, 28)) rfl rfl ⟨rfl, rfl⟩ ⟨Nat.le_of_ble_eq_true rfl, Nat.le_of_ble_eq_true rfl⟩ hcs1 rfl rfl (Nat.le_of_ble_eq_true rfl) dL_law__1332 ?_
    refine z_iload S dL_law__1335 5 rfl ?_
    refine z_icmp_eq (tgt := 1342) (A := true) (B := false) (x0 := true) S (if_pos rfl) dL_law__1337 (by decide) (fun _ => ?_) (fun he => nomatch he)
    refine z_iload S dL_law__1342 5 rfl ?_
    have hfin : Z X 3 p l e room_1 s m args below meth c (cells + 3) (slots + 18) Q 7 (mk3 Nc Nr g2) 1359 [(0, .ref b), (1, .ref (X.2.2 1)), (2, .ref (X.2.2 109)), (3, .ref (X.2.2 108)), (4, .int i), (5, .int (gI Nr 109 0)), (6, .int v)] [] := by
      refine z_goto (tgt := 2391) S dL_law__1359 (by decide) ?_
      refine z_lv (ks := [0, 1, 2, 3, 4]) rfl ?_
      exact kk g2
    by_cases ht : gI Nr 109 0 = 0
    · refine z_if_ne (tgt := 1359) (A := true) (B := false) (x0 := true) S (if_pos ht) dL_law__1344 (by decide) (fun he => nomatch he) (fun _ => ?_)
      refine z_aload_n S dL_law__1347 rfl 3 rfl ?_
      refine z_iconst (v := 0) S dL_law__1348 (by decide) ?_
      refine z_lald (i := 108) (N := 1) (A := some ()) (x0 := ()) S ok3_108 (by decide +kernel) (by decide) dL_law__1349 (fun _ => ?_)
      refine z_iload S dL_law__1350 6 rfl ?_
      refine z_i2l S dL_law__1352 ?_
      refine z_lcmp S dL_law__1353 ?_
      refine z_if_eq (tgt := 1359) (A := true) (B := false) (x0 := true) S (if_pos (lgc_eq (hg2 ht))) dL_law__1354 (by decide) (fun _ => ?_) (fun he => nomatch he)
      exact hfin
    · refine z_if_ne (tgt := 1359) (A := true) (B := false) (x0 := false) S (if_neg ht) dL_law__1344 (by decide) (fun _ => ?_) (fun he => nomatch he)
      exact hfin
set_option maxRecDepth 100000 in
set_option maxHeartbeats 4000000 in
theorem LC_22 {X : Cx} {p : Program} {l : Launch} {e : Env} {s : State} {m : MethodId} {args : Array Value} {below : List Frame} {meth : Method} {c : Code} {cells slots : Nat} {Q : State → Prop} {b L : Nat} {xs : Nat → Int32} (hl0 : l.stackTraces = false) (S : SB X 3 p s m args meth c cL_law_ 7 ret RL) (hNC : NCF s) (hX : va_X b L xs s s.heap) (hbl : b < s.heap.size) (hbA : ¬ AA X 3 s.heap.size b) {i : Int32} (hin1 : ibs (i + 1) L = true) (hin2 : ibs (i + 2) L = true) (hin3 : ibs (i + 3) L = true) (hin4 : ibs (i + 4) L = true) (hin5 : ibs (i + 5) L = true) (hcs0 : cells ≤ room_1.cells ∧ slots ≤ room_1.slots) (hcs1 : cells + 3 ≤ room_1.cells ∧ slots + 18 ≤ room_1.slots) {Mc Mr Nc Nr : Mm} {g : Nat → Int64} (hs : so_22 (xs (i + 1).toNatClampNeg) (xs (i + 2).toNatClampNeg) (xs (i + 3).toNatClampNeg) (xs (i + 4).toNatClampNeg) (xs (i + 5).toNatClampNeg) Mc Mr Nc Nr) (kk : ∀ g2, Z X 3 p l e room_1 s m args below meth c (cells + 3) (slots + 18) Q 7 (mk3 Nc Nr g2) 2391 [(0, .ref b), (1, .ref (X.2.2 1)), (2, .ref (X.2.2 109)), (3, .ref (X.2.2 108)), (4, .int i)] []) : Z X 3 p l e room_1 s m args below meth c cells slots Q 7 (mk3 Mc Mr g) 1362 [(0, .ref b), (1, .ref (X.2.2 1)), (2, .ref (X.2.2 109)), (3, .ref (X.2.2 108)), (4, .int i)] [] := by
  obtain ⟨v, he, hm⟩ := hs
  skip
  refine z_aload_n S dL_law__1362 rfl 1 rfl ?_
  refine z_wVI (v := 0) (As := []) (rest := []) S ⟨by decide, by decide⟩ agr3c mix3c cv_RL_198 (K_X9_fewest he) ok3_1 (by decide) (q := (RX9, TX9, 17)) rfl rfl ⟨rfl, rfl⟩ ⟨Nat.le_of_ble_eq_true rfl, Nat.le_of_ble_eq_true rfl⟩ hcs0 rfl rfl (Nat.le_of_ble_eq_true rfl) dL_law__1363 ?_
  refine z_aload_n S dL_law__1366 rfl 2 rfl ?_
  refine z_wVI (v := 1) (As := []) (rest := [.int v]) S ⟨by decide, by decide⟩ agr3r mix3r cv_RL_201 (K_X10_fewest hm) ok3_109 (by decide) (q := (RX10, TX10, 28)) rfl rfl ⟨rfl, rfl⟩ ⟨Nat.le_of_ble_eq_true rfl, Nat.le_of_ble_eq_true rfl⟩ hcs0 rfl rfl (Nat.le_of_ble_eq_true rfl) dL_law__1367 ?_
  refine z_icmp_eq (tgt := 2391) (A := true) (B := false) (x0 := true) S (if_pos rfl) dL_law__1370 (by decide) (fun _ => ?_) (fun he => nomatch he)
  refine z_widen (k := cells + 3) (j := slots + 18) (by omega) (by omega) ?_
  exact kk g
set_option maxRecDepth 100000 in
set_option maxHeartbeats 4000000 in
theorem LC_23 {X : Cx} {p : Program} {l : Launch} {e : Env} {s : State} {m : MethodId} {args : Array Value} {below : List Frame} {meth : Method} {c : Code} {cells slots : Nat} {Q : State → Prop} {b L : Nat} {xs : Nat → Int32} (hl0 : l.stackTraces = false) (S : SB X 3 p s m args meth c cL_law_ 7 ret RL) (hNC : NCF s) (hX : va_X b L xs s s.heap) (hbl : b < s.heap.size) (hbA : ¬ AA X 3 s.heap.size b) {i : Int32} (hin1 : ibs (i + 1) L = true) (hin2 : ibs (i + 2) L = true) (hin3 : ibs (i + 3) L = true) (hin4 : ibs (i + 4) L = true) (hin5 : ibs (i + 5) L = true) (hcs0 : cells ≤ room_1.cells ∧ slots ≤ room_1.slots) (hcs1 : cells + 3 ≤ room_1.cells ∧ slots + 18 ≤ room_1.slots) {Mc Mr Nc Nr : Mm} {g : Nat → Int64} (hs : so_23 (xs (i + 1).toNatClampNeg) (xs (i + 2).toNatClampNeg) (xs (i + 3).toNatClampNeg) (xs (i + 4).toNatClampNeg) (xs (i + 5).toNatClampNeg) Mc Mr Nc Nr) (kk : ∀ g2, Z X 3 p l e room_1 s m args below meth c (cells + 3) (slots + 18) Q 7 (mk3 Nc Nr g2) 2391 [(0, .ref b), (1, .ref (X.2.2 1)), (2, .ref (X.2.2 109)), (3, .ref (X.2.2 108)), (4, .int i)] []) : Z X 3 p l e room_1 s m args below meth c cells slots Q 7 (mk3 Mc Mr g) 1375 [(0, .ref b), (1, .ref (X.2.2 1)), (2, .ref (X.2.2 109)), (3, .ref (X.2.2 108)), (4, .int i)] [] := by
  obtain ⟨v, he, hm⟩ := hs
  skip
  refine z_aload_n S dL_law__1375 rfl 1 rfl ?_
  refine z_wVI (v := 0) (As := []) (rest := []) S ⟨by decide, by decide⟩ agr3c mix3c cv_RL_202 (K_X9_alone he) ok3_1 (by decide) (q := (RX9, TX9, 17)) rfl rfl ⟨rfl, rfl⟩ ⟨Nat.le_of_ble_eq_true rfl, Nat.le_of_ble_eq_true rfl⟩ hcs0 rfl rfl (Nat.le_of_ble_eq_true rfl) dL_law__1376 ?_
  refine z_aload_n S dL_law__1379 rfl 2 rfl ?_
  refine z_wVI (v := 1) (As := []) (rest := [.int v]) S ⟨by decide, by decide⟩ agr3r mix3r cv_RL_205 (K_X10_alone hm) ok3_109 (by decide) (q := (RX10, TX10, 28)) rfl rfl ⟨rfl, rfl⟩ ⟨Nat.le_of_ble_eq_true rfl, Nat.le_of_ble_eq_true rfl⟩ hcs0 rfl rfl (Nat.le_of_ble_eq_true rfl) dL_law__1380 ?_
  refine z_icmp_eq (tgt := 2391) (A := true) (B := false) (x0 := true) S (if_pos rfl) dL_law__1383 (by decide) (fun _ => ?_) (fun he => nomatch he)
  refine z_widen (k := cells + 3) (j := slots + 18) (by omega) (by omega) ?_
  exact kk g
set_option maxRecDepth 100000 in
set_option maxHeartbeats 4000000 in
theorem LC_24 {X : Cx} {p : Program} {l : Launch} {e : Env} {s : State} {m : MethodId} {args : Array Value} {below : List Frame} {meth : Method} {c : Code} {cells slots : Nat} {Q : State → Prop} {b L : Nat} {xs : Nat → Int32} (hl0 : l.stackTraces = false) (S : SB X 3 p s m args meth c cL_law_ 7 ret RL) (hNC : NCF s) (hX : va_X b L xs s s.heap) (hbl : b < s.heap.size) (hbA : ¬ AA X 3 s.heap.size b) {i : Int32} (hin1 : ibs (i + 1) L = true) (hin2 : ibs (i + 2) L = true) (hin3 : ibs (i + 3) L = true) (hin4 : ibs (i + 4) L = true) (hin5 : ibs (i + 5) L = true) (hcs0 : cells ≤ room_1.cells ∧ slots ≤ room_1.slots) (hcs1 : cells + 3 ≤ room_1.cells ∧ slots + 18 ≤ room_1.slots) {Mc Mr Nc Nr : Mm} {g : Nat → Int64} (hs : so_24 (xs (i + 1).toNatClampNeg) (xs (i + 2).toNatClampNeg) (xs (i + 3).toNatClampNeg) (xs (i + 4).toNatClampNeg) (xs (i + 5).toNatClampNeg) Mc Mr Nc Nr) (kk : ∀ g2, Z X 3 p l e room_1 s m args below meth c (cells + 3) (slots + 18) Q 7 (mk3 Nc Nr g2) 2391 [(0, .ref b), (1, .ref (X.2.2 1)), (2, .ref (X.2.2 109)), (3, .ref (X.2.2 108)), (4, .int i)] []) : Z X 3 p l e room_1 s m args below meth c cells slots Q 7 (mk3 Mc Mr g) 1388 [(0, .ref b), (1, .ref (X.2.2 1)), (2, .ref (X.2.2 109)), (3, .ref (X.2.2 108)), (4, .int i)] [] := by
  obtain ⟨rx, v, he, hm, hok⟩ := hs
  skip
  refine z_aload_n S dL_law__1388 rfl 1 rfl ?_
  refine z_aload_n S dL_law__1389 rfl 0 rfl ?_
  refine z_iload S dL_law__1390 4 rfl ?_
  refine z_iconst (v := 1) S dL_law__1392 (by decide) ?_
  refine z_iadd S dL_law__1393 ?_
  refine z_sld S hX hbl hbA hin1 dL_law__1394 ?_
  refine z_aload_n S dL_law__1395 rfl 0 rfl ?_
  refine z_iload S dL_law__1396 4 rfl ?_
  refine z_iconst (v := 2) S dL_law__1398 (by decide) ?_
  refine z_iadd S dL_law__1399 ?_
  refine z_sld S hX hbl hbA hin2 dL_law__1400 ?_
  refine z_aload_n S dL_law__1401 rfl 3 rfl ?_
  obtain ⟨g2, hw, hg2⟩ := okI_wr g hok
  refine z_cW (As := [.ref (X.2.2 1), .int (xs (i + 1).toNatClampNeg), .int (xs (i + 2).toNatClampNeg), .ref (X.2.2 108)]) (rest := []) S hNC cw_RL_206 (K_L_rivals (Mr := Mr) hl0 he hw) ⟨rfl, rfl⟩ ⟨Nat.le_of_ble_eq_true rfl, Nat.le_of_ble_eq_true rfl⟩ hcs1 rfl rfl (Nat.le_of_ble_eq_true rfl) dL_law__1402 ?_
  refine z_istore (lv' := [(0, .ref b), (1, .ref (X.2.2 1)), (2, .ref (X.2.2 109)), (3, .ref (X.2.2 108)), (4, .int i), (5, .int (gI Nr 109 0))]) S [1, 2, 3, 4, 5, 0] dL_law__1405 (by decide) rfl ?_
  refine z_aload_n S dL_law__1407 rfl 2 rfl ?_
  refine z_aload_n S dL_law__1408 rfl 0 rfl ?_
  refine z_iload S dL_law__1409 4 rfl ?_
  refine z_iconst (v := 1) S dL_law__1411 (by decide) ?_
  refine z_iadd S dL_law__1412 ?_
  refine z_sld S hX hbl hbA hin1 dL_law__1413 ?_
  refine z_aload_n S dL_law__1414 rfl 0 rfl ?_
  refine z_iload S dL_law__1415 4 rfl ?_
  refine z_iconst (v := 2) S dL_law__1417 (by decide) ?_
  refine z_iadd S dL_law__1418 ?_
  refine z_sld S hX hbl hbA hin2 dL_law__1419 ?_
  refine z_wVI (v := 1) (As := [.int (xs (i + 1).toNatClampNeg), .int (xs (i + 2).toNatClampNeg)]) (rest := []) S ⟨by decide, by decide⟩ agr3r mix3r cv_RL_208 (K_X10_rivals hm) ok3_109 (by decide) (q := (RX10, TX10, 28)) rfl rfl ⟨rfl, rfl⟩ ⟨Nat.le_of_ble_eq_true rfl, Nat.le_of_ble_eq_true rfl⟩ hcs1 rfl rfl (Nat.le_of_ble_eq_true rfl) dL_law__1420 ?_
  refine z_istore (lv' := [(0, .ref b), (1, .ref (X.2.2 1)), (2, .ref (X.2.2 109)), (3, .ref (X.2.2 108)), (4, .int i), (5, .int (gI Nr 109 0)), (6, .int v)]) S [1, 2, 3, 4, 5, 6, 0] dL_law__1423 (by decide) rfl ?_
  refine z_aload_n S dL_law__1425 rfl 2 rfl ?_
  refine z_wVI (v := 1) (As := []) (rest := []) S ⟨by decide, by decide⟩ agr3r mix3r cv_RL_127 (K_X10_thrown (M := Nr) rfl) ok3_109 (by decide) (q := (RX10, TX10, 28)) rfl rfl ⟨rfl, rfl⟩ ⟨Nat.le_of_ble_eq_true rfl, Nat.le_of_ble_eq_true rfl⟩ hcs1 rfl rfl (Nat.le_of_ble_eq_true rfl) dL_law__1426 ?_
  refine z_iload S dL_law__1429 5 rfl ?_
  refine z_icmp_eq (tgt := 1436) (A := true) (B := false) (x0 := true) S (if_pos rfl) dL_law__1431 (by decide) (fun _ => ?_) (fun he => nomatch he)
  refine z_iload S dL_law__1436 5 rfl ?_
  have hfin : Z X 3 p l e room_1 s m args below meth c (cells + 3) (slots + 18) Q 7 (mk3 Nc Nr g2) 1453 [(0, .ref b), (1, .ref (X.2.2 1)), (2, .ref (X.2.2 109)), (3, .ref (X.2.2 108)), (4, .int i), (5, .int (gI Nr 109 0)), (6, .int v)] [] := by
    refine z_goto (tgt := 2391) S dL_law__1453 (by decide) ?_
    refine z_lv (ks := [0, 1, 2, 3, 4]) rfl ?_
    exact kk g2
  by_cases ht : gI Nr 109 0 = 0
  · refine z_if_ne (tgt := 1453) (A := true) (B := false) (x0 := true) S (if_pos ht) dL_law__1438 (by decide) (fun he => nomatch he) (fun _ => ?_)
    refine z_aload_n S dL_law__1441 rfl 3 rfl ?_
    refine z_iconst (v := 0) S dL_law__1442 (by decide) ?_
    refine z_lald (i := 108) (N := 1) (A := some ()) (x0 := ()) S ok3_108 (by decide +kernel) (by decide) dL_law__1443 (fun _ => ?_)
    refine z_iload S dL_law__1444 6 rfl ?_
    refine z_i2l S dL_law__1446 ?_
    refine z_lcmp S dL_law__1447 ?_
    refine z_if_eq (tgt := 1453) (A := true) (B := false) (x0 := true) S (if_pos (lgc_eq (hg2 ht))) dL_law__1448 (by decide) (fun _ => ?_) (fun he => nomatch he)
    exact hfin
  · refine z_if_ne (tgt := 1453) (A := true) (B := false) (x0 := false) S (if_neg ht) dL_law__1438 (by decide) (fun _ => ?_) (fun he => nomatch he)
    exact hfin
set_option maxRecDepth 100000 in
set_option maxHeartbeats 4000000 in
theorem LC_25 {X : Cx} {p : Program} {l : Launch} {e : Env} {s : State} {m : MethodId} {args : Array Value} {below : List Frame} {meth : Method} {c : Code} {cells slots : Nat} {Q : State → Prop} {b L : Nat} {xs : Nat → Int32} (hl0 : l.stackTraces = false) (S : SB X 3 p s m args meth c cL_law_ 7 ret RL) (hNC : NCF s) (hX : va_X b L xs s s.heap) (hbl : b < s.heap.size) (hbA : ¬ AA X 3 s.heap.size b) {i : Int32} (hin1 : ibs (i + 1) L = true) (hin2 : ibs (i + 2) L = true) (hin3 : ibs (i + 3) L = true) (hin4 : ibs (i + 4) L = true) (hin5 : ibs (i + 5) L = true) (hcs0 : cells ≤ room_1.cells ∧ slots ≤ room_1.slots) (hcs1 : cells + 3 ≤ room_1.cells ∧ slots + 18 ≤ room_1.slots) {Mc Mr Nc Nr : Mm} {g : Nat → Int64} (hs : so_25 (xs (i + 1).toNatClampNeg) (xs (i + 2).toNatClampNeg) (xs (i + 3).toNatClampNeg) (xs (i + 4).toNatClampNeg) (xs (i + 5).toNatClampNeg) Mc Mr Nc Nr) (kk : ∀ g2, Z X 3 p l e room_1 s m args below meth c (cells + 3) (slots + 18) Q 7 (mk3 Nc Nr g2) 2391 [(0, .ref b), (1, .ref (X.2.2 1)), (2, .ref (X.2.2 109)), (3, .ref (X.2.2 108)), (4, .int i)] []) : Z X 3 p l e room_1 s m args below meth c cells slots Q 7 (mk3 Mc Mr g) 1456 [(0, .ref b), (1, .ref (X.2.2 1)), (2, .ref (X.2.2 109)), (3, .ref (X.2.2 108)), (4, .int i)] [] := by
  obtain ⟨rx, v, he, hm, hok⟩ := hs
  by_cases hx2 : xs (i + 2).toNatClampNeg = 0
  · rw [show nb (xs (i + 2).toNatClampNeg) = 0 from if_pos hx2] at he hm
    refine z_aload_n S dL_law__1456 rfl 1 rfl ?_
    refine z_aload_n S dL_law__1457 rfl 0 rfl ?_
    refine z_iload S dL_law__1458 4 rfl ?_
    refine z_iconst (v := 1) S dL_law__1460 (by decide) ?_
    refine z_iadd S dL_law__1461 ?_
    refine z_sld S hX hbl hbA hin1 dL_law__1462 ?_
    refine z_aload_n S dL_law__1463 rfl 0 rfl ?_
    refine z_iload S dL_law__1464 4 rfl ?_
    refine z_iconst (v := 2) S dL_law__1466 (by decide) ?_
    refine z_iadd S dL_law__1467 ?_
    refine z_sld S hX hbl hbA hin2 dL_law__1468 ?_
    refine z_if_eq (tgt := 1476) (A := true) (B := false) (x0 := true) S (if_pos hx2) dL_law__1469 (by decide) (fun _ => ?_) (fun he => nomatch he)
    refine z_iconst (v := 0) S dL_law__1476 (by decide) ?_
    refine z_aload_n S dL_law__1477 rfl 3 rfl ?_
    obtain ⟨g2, hw, hg2⟩ := okI_wr g hok
    refine z_cW (As := [.ref (X.2.2 1), .int (xs (i + 1).toNatClampNeg), .int 0, .ref (X.2.2 108)]) (rest := []) S hNC cw_RL_209 (K_L_group (Mr := Mr) hl0 he hw) ⟨rfl, rfl⟩ ⟨Nat.le_of_ble_eq_true rfl, Nat.le_of_ble_eq_true rfl⟩ hcs1 rfl rfl (Nat.le_of_ble_eq_true rfl) dL_law__1478 ?_
    refine z_istore (lv' := [(0, .ref b), (1, .ref (X.2.2 1)), (2, .ref (X.2.2 109)), (3, .ref (X.2.2 108)), (4, .int i), (5, .int (gI Nr 109 0))]) S [1, 2, 3, 4, 5, 0] dL_law__1481 (by decide) rfl ?_
    refine z_aload_n S dL_law__1483 rfl 2 rfl ?_
    refine z_aload_n S dL_law__1484 rfl 0 rfl ?_
    refine z_iload S dL_law__1485 4 rfl ?_
    refine z_iconst (v := 1) S dL_law__1487 (by decide) ?_
    refine z_iadd S dL_law__1488 ?_
    refine z_sld S hX hbl hbA hin1 dL_law__1489 ?_
    refine z_aload_n S dL_law__1490 rfl 0 rfl ?_
    refine z_iload S dL_law__1491 4 rfl ?_
    refine z_iconst (v := 2) S dL_law__1493 (by decide) ?_
    refine z_iadd S dL_law__1494 ?_
    refine z_sld S hX hbl hbA hin2 dL_law__1495 ?_
    refine z_if_eq (tgt := 1503) (A := true) (B := false) (x0 := true) S (if_pos hx2) dL_law__1496 (by decide) (fun _ => ?_) (fun he => nomatch he)
    refine z_iconst (v := 0) S dL_law__1503 (by decide) ?_
    refine z_wVI (v := 1) (As := [.int (xs (i + 1).toNatClampNeg), .int 0]) (rest := []) S ⟨by decide, by decide⟩ agr3r mix3r cv_RL_211 (K_X10_group hm) ok3_109 (by decide) (q := (RX10, TX10, 28)) rfl rfl ⟨rfl, rfl⟩ ⟨Nat.le_of_ble_eq_true rfl, Nat.le_of_ble_eq_true rfl⟩ hcs1 rfl rfl (Nat.le_of_ble_eq_true rfl) dL_law__1504 ?_
    refine z_istore (lv' := [(0, .ref b), (1, .ref (X.2.2 1)), (2, .ref (X.2.2 109)), (3, .ref (X.2.2 108)), (4, .int i), (5, .int (gI Nr 109 0)), (6, .int v)]) S [1, 2, 3, 4, 5, 6, 0] dL_law__1507 (by decide) rfl ?_
    refine z_aload_n S dL_law__1509 rfl 2 rfl ?_
    refine z_wVI (v := 1) (As := []) (rest := []) S ⟨by decide, by decide⟩ agr3r mix3r cv_RL_127 (K_X10_thrown (M := Nr) rfl) ok3_109 (by decide) (q := (RX10, TX10, 28)) rfl rfl ⟨rfl, rfl⟩ ⟨Nat.le_of_ble_eq_true rfl, Nat.le_of_ble_eq_true rfl⟩ hcs1 rfl rfl (Nat.le_of_ble_eq_true rfl) dL_law__1510 ?_
    refine z_iload S dL_law__1513 5 rfl ?_
    refine z_icmp_eq (tgt := 1520) (A := true) (B := false) (x0 := true) S (if_pos rfl) dL_law__1515 (by decide) (fun _ => ?_) (fun he => nomatch he)
    refine z_iload S dL_law__1520 5 rfl ?_
    have hfin : Z X 3 p l e room_1 s m args below meth c (cells + 3) (slots + 18) Q 7 (mk3 Nc Nr g2) 1537 [(0, .ref b), (1, .ref (X.2.2 1)), (2, .ref (X.2.2 109)), (3, .ref (X.2.2 108)), (4, .int i), (5, .int (gI Nr 109 0)), (6, .int v)] [] := by
      refine z_goto (tgt := 2391) S dL_law__1537 (by decide) ?_
      refine z_lv (ks := [0, 1, 2, 3, 4]) rfl ?_
      exact kk g2
    by_cases ht : gI Nr 109 0 = 0
    · refine z_if_ne (tgt := 1537) (A := true) (B := false) (x0 := true) S (if_pos ht) dL_law__1522 (by decide) (fun he => nomatch he) (fun _ => ?_)
      refine z_aload_n S dL_law__1525 rfl 3 rfl ?_
      refine z_iconst (v := 0) S dL_law__1526 (by decide) ?_
      refine z_lald (i := 108) (N := 1) (A := some ()) (x0 := ()) S ok3_108 (by decide +kernel) (by decide) dL_law__1527 (fun _ => ?_)
      refine z_iload S dL_law__1528 6 rfl ?_
      refine z_i2l S dL_law__1530 ?_
      refine z_lcmp S dL_law__1531 ?_
      refine z_if_eq (tgt := 1537) (A := true) (B := false) (x0 := true) S (if_pos (lgc_eq (hg2 ht))) dL_law__1532 (by decide) (fun _ => ?_) (fun he => nomatch he)
      exact hfin
    · refine z_if_ne (tgt := 1537) (A := true) (B := false) (x0 := false) S (if_neg ht) dL_law__1522 (by decide) (fun _ => ?_) (fun he => nomatch he)
      exact hfin
  · rw [show nb (xs (i + 2).toNatClampNeg) = 1 from if_neg hx2] at he hm
    refine z_aload_n S dL_law__1456 rfl 1 rfl ?_
    refine z_aload_n S dL_law__1457 rfl 0 rfl ?_
    refine z_iload S dL_law__1458 4 rfl ?_
    refine z_iconst (v := 1) S dL_law__1460 (by decide) ?_
    refine z_iadd S dL_law__1461 ?_
    refine z_sld S hX hbl hbA hin1 dL_law__1462 ?_
    refine z_aload_n S dL_law__1463 rfl 0 rfl ?_
    refine z_iload S dL_law__1464 4 rfl ?_
    refine z_iconst (v := 2) S dL_law__1466 (by decide) ?_
    refine z_iadd S dL_law__1467 ?_
    refine z_sld S hX hbl hbA hin2 dL_law__1468 ?_
    refine z_if_eq (tgt := 1476) (A := true) (B := false) (x0 := false) S (if_neg hx2) dL_law__1469 (by decide) (fun he => nomatch he) (fun _ => ?_)
    refine z_iconst (v := 1) S dL_law__1472 (by decide) ?_
    refine z_goto (tgt := 1477) S dL_law__1473 (by decide) ?_
    refine z_aload_n S dL_law__1477 rfl 3 rfl ?_
    obtain ⟨g2, hw, hg2⟩ := okI_wr g hok
    refine z_cW (As := [.ref (X.2.2 1), .int (xs (i + 1).toNatClampNeg), .int 1, .ref (X.2.2 108)]) (rest := []) S hNC cw_RL_209 (K_L_group (Mr := Mr) hl0 he hw) ⟨rfl, rfl⟩ ⟨Nat.le_of_ble_eq_true rfl, Nat.le_of_ble_eq_true rfl⟩ hcs1 rfl rfl (Nat.le_of_ble_eq_true rfl) dL_law__1478 ?_
    refine z_istore (lv' := [(0, .ref b), (1, .ref (X.2.2 1)), (2, .ref (X.2.2 109)), (3, .ref (X.2.2 108)), (4, .int i), (5, .int (gI Nr 109 0))]) S [1, 2, 3, 4, 5, 0] dL_law__1481 (by decide) rfl ?_
    refine z_aload_n S dL_law__1483 rfl 2 rfl ?_
    refine z_aload_n S dL_law__1484 rfl 0 rfl ?_
    refine z_iload S dL_law__1485 4 rfl ?_
    refine z_iconst (v := 1) S dL_law__1487 (by decide) ?_
    refine z_iadd S dL_law__1488 ?_
    refine z_sld S hX hbl hbA hin1 dL_law__1489 ?_
    refine z_aload_n S dL_law__1490 rfl 0 rfl ?_
    refine z_iload S dL_law__1491 4 rfl ?_
    refine z_iconst (v := 2) S dL_law__1493 (by decide) ?_
    refine z_iadd S dL_law__1494 ?_
    refine z_sld S hX hbl hbA hin2 dL_law__1495 ?_
    refine z_if_eq (tgt := 1503) (A := true) (B := false) (x0 := false) S (if_neg hx2) dL_law__1496 (by decide) (fun he => nomatch he) (fun _ => ?_)
    refine z_iconst (v := 1) S dL_law__1499 (by decide) ?_
    refine z_goto (tgt := 1504) S dL_law__1500 (by decide) ?_
    refine z_wVI (v := 1) (As := [.int (xs (i + 1).toNatClampNeg), .int 1]) (rest := []) S ⟨by decide, by decide⟩ agr3r mix3r cv_RL_211 (K_X10_group hm) ok3_109 (by decide) (q := (RX10, TX10, 28)) rfl rfl ⟨rfl, rfl⟩ ⟨Nat.le_of_ble_eq_true rfl, Nat.le_of_ble_eq_true rfl⟩ hcs1 rfl rfl (Nat.le_of_ble_eq_true rfl) dL_law__1504 ?_
    refine z_istore (lv' := [(0, .ref b), (1, .ref (X.2.2 1)), (2, .ref (X.2.2 109)), (3, .ref (X.2.2 108)), (4, .int i), (5, .int (gI Nr 109 0)), (6, .int v)]) S [1, 2, 3, 4, 5, 6, 0] dL_law__1507 (by decide) rfl ?_
    refine z_aload_n S dL_law__1509 rfl 2 rfl ?_
    refine z_wVI (v := 1) (As := []) (rest := []) S ⟨by decide, by decide⟩ agr3r mix3r cv_RL_127 (K_X10_thrown (M := Nr) rfl) ok3_109 (by decide) (q := (RX10, TX10, 28)) rfl rfl ⟨rfl, rfl⟩ ⟨Nat.le_of_ble_eq_true rfl, Nat.le_of_ble_eq_true rfl⟩ hcs1 rfl rfl (Nat.le_of_ble_eq_true rfl) dL_law__1510 ?_
    refine z_iload S dL_law__1513 5 rfl ?_
    refine z_icmp_eq (tgt := 1520) (A := true) (B := false) (x0 := true) S (if_pos rfl) dL_law__1515 (by decide) (fun _ => ?_) (fun he => nomatch he)
    refine z_iload S dL_law__1520 5 rfl ?_
    have hfin : Z X 3 p l e room_1 s m args below meth c (cells + 3) (slots + 18) Q 7 (mk3 Nc Nr g2) 1537 [(0, .ref b), (1, .ref (X.2.2 1)), (2, .ref (X.2.2 109)), (3, .ref (X.2.2 108)), (4, .int i), (5, .int (gI Nr 109 0)), (6, .int v)] [] := by
      refine z_goto (tgt := 2391) S dL_law__1537 (by decide) ?_
      refine z_lv (ks := [0, 1, 2, 3, 4]) rfl ?_
      exact kk g2
    by_cases ht : gI Nr 109 0 = 0
    · refine z_if_ne (tgt := 1537) (A := true) (B := false) (x0 := true) S (if_pos ht) dL_law__1522 (by decide) (fun he => nomatch he) (fun _ => ?_)
      refine z_aload_n S dL_law__1525 rfl 3 rfl ?_
      refine z_iconst (v := 0) S dL_law__1526 (by decide) ?_
      refine z_lald (i := 108) (N := 1) (A := some ()) (x0 := ()) S ok3_108 (by decide +kernel) (by decide) dL_law__1527 (fun _ => ?_)
      refine z_iload S dL_law__1528 6 rfl ?_
      refine z_i2l S dL_law__1530 ?_
      refine z_lcmp S dL_law__1531 ?_
      refine z_if_eq (tgt := 1537) (A := true) (B := false) (x0 := true) S (if_pos (lgc_eq (hg2 ht))) dL_law__1532 (by decide) (fun _ => ?_) (fun he => nomatch he)
      exact hfin
    · refine z_if_ne (tgt := 1537) (A := true) (B := false) (x0 := false) S (if_neg ht) dL_law__1522 (by decide) (fun _ => ?_) (fun he => nomatch he)
      exact hfin
set_option maxRecDepth 100000 in
set_option maxHeartbeats 4000000 in
theorem LC_26 {X : Cx} {p : Program} {l : Launch} {e : Env} {s : State} {m : MethodId} {args : Array Value} {below : List Frame} {meth : Method} {c : Code} {cells slots : Nat} {Q : State → Prop} {b L : Nat} {xs : Nat → Int32} (hl0 : l.stackTraces = false) (S : SB X 3 p s m args meth c cL_law_ 7 ret RL) (hNC : NCF s) (hX : va_X b L xs s s.heap) (hbl : b < s.heap.size) (hbA : ¬ AA X 3 s.heap.size b) {i : Int32} (hin1 : ibs (i + 1) L = true) (hin2 : ibs (i + 2) L = true) (hin3 : ibs (i + 3) L = true) (hin4 : ibs (i + 4) L = true) (hin5 : ibs (i + 5) L = true) (hcs0 : cells ≤ room_1.cells ∧ slots ≤ room_1.slots) (hcs1 : cells + 3 ≤ room_1.cells ∧ slots + 18 ≤ room_1.slots) {Mc Mr Nc Nr : Mm} {g : Nat → Int64} (hs : so_26 (xs (i + 1).toNatClampNeg) (xs (i + 2).toNatClampNeg) (xs (i + 3).toNatClampNeg) (xs (i + 4).toNatClampNeg) (xs (i + 5).toNatClampNeg) Mc Mr Nc Nr) (kk : ∀ g2, Z X 3 p l e room_1 s m args below meth c (cells + 3) (slots + 18) Q 7 (mk3 Nc Nr g2) 2391 [(0, .ref b), (1, .ref (X.2.2 1)), (2, .ref (X.2.2 109)), (3, .ref (X.2.2 108)), (4, .int i)] []) : Z X 3 p l e room_1 s m args below meth c cells slots Q 7 (mk3 Mc Mr g) 1540 [(0, .ref b), (1, .ref (X.2.2 1)), (2, .ref (X.2.2 109)), (3, .ref (X.2.2 108)), (4, .int i)] [] := by
  obtain ⟨rx, v, he, hm, hok⟩ := hs
  by_cases hx1 : xs (i + 1).toNatClampNeg = 0
  · rw [show nb (xs (i + 1).toNatClampNeg) = 0 from if_pos hx1] at he hm
    refine z_aload_n S dL_law__1540 rfl 1 rfl ?_
    refine z_aload_n S dL_law__1541 rfl 0 rfl ?_
    refine z_iload S dL_law__1542 4 rfl ?_
    refine z_iconst (v := 1) S dL_law__1544 (by decide) ?_
    refine z_iadd S dL_law__1545 ?_
    refine z_sld S hX hbl hbA hin1 dL_law__1546 ?_
    refine z_if_eq (tgt := 1554) (A := true) (B := false) (x0 := true) S (if_pos hx1) dL_law__1547 (by decide) (fun _ => ?_) (fun he => nomatch he)
    refine z_iconst (v := 0) S dL_law__1554 (by decide) ?_
    refine z_aload_n S dL_law__1555 rfl 3 rfl ?_
    obtain ⟨g2, hw, hg2⟩ := okI_wr g hok
    refine z_cW (As := [.ref (X.2.2 1), .int 0, .ref (X.2.2 108)]) (rest := []) S hNC cw_RL_212 (K_L_wants (Mr := Mr) hl0 he hw) ⟨rfl, rfl⟩ ⟨Nat.le_of_ble_eq_true rfl, Nat.le_of_ble_eq_true rfl⟩ hcs1 rfl rfl (Nat.le_of_ble_eq_true rfl) dL_law__1556 ?_
    refine z_istore (lv' := [(0, .ref b), (1, .ref (X.2.2 1)), (2, .ref (X.2.2 109)), (3, .ref (X.2.2 108)), (4, .int i), (5, .int (gI Nr 109 0))]) S [1, 2, 3, 4, 5, 0] dL_law__1559 (by decide) rfl ?_
    refine z_aload_n S dL_law__1561 rfl 2 rfl ?_
    refine z_aload_n S dL_law__1562 rfl 0 rfl ?_
    refine z_iload S dL_law__1563 4 rfl ?_
    refine z_iconst (v := 1) S dL_law__1565 (by decide) ?_
    refine z_iadd S dL_law__1566 ?_
    refine z_sld S hX hbl hbA hin1 dL_law__1567 ?_
    refine z_if_eq (tgt := 1575) (A := true) (B := false) (x0 := true) S (if_pos hx1) dL_law__1568 (by decide) (fun _ => ?_) (fun he => nomatch he)
    refine z_iconst (v := 0) S dL_law__1575 (by decide) ?_
    refine z_wVI (v := 1) (As := [.int 0]) (rest := []) S ⟨by decide, by decide⟩ agr3r mix3r cv_RL_215 (K_X10_wants hm) ok3_109 (by decide) (q := (RX10, TX10, 28)) rfl rfl ⟨rfl, rfl⟩ ⟨Nat.le_of_ble_eq_true rfl, Nat.le_of_ble_eq_true rfl⟩ hcs1 rfl rfl (Nat.le_of_ble_eq_true rfl) dL_law__1576 ?_
    refine z_istore (lv' := [(0, .ref b), (1, .ref (X.2.2 1)), (2, .ref (X.2.2 109)), (3, .ref (X.2.2 108)), (4, .int i), (5, .int (gI Nr 109 0)), (6, .int v)]) S [1, 2, 3, 4, 5, 6, 0] dL_law__1579 (by decide) rfl ?_
    refine z_aload_n S dL_law__1581 rfl 2 rfl ?_
    refine z_wVI (v := 1) (As := []) (rest := []) S ⟨by decide, by decide⟩ agr3r mix3r cv_RL_127 (K_X10_thrown (M := Nr) rfl) ok3_109 (by decide) (q := (RX10, TX10, 28)) rfl rfl ⟨rfl, rfl⟩ ⟨Nat.le_of_ble_eq_true rfl, Nat.le_of_ble_eq_true rfl⟩ hcs1 rfl rfl (Nat.le_of_ble_eq_true rfl) dL_law__1582 ?_
    refine z_iload S dL_law__1585 5 rfl ?_
    refine z_icmp_eq (tgt := 1592) (A := true) (B := false) (x0 := true) S (if_pos rfl) dL_law__1587 (by decide) (fun _ => ?_) (fun he => nomatch he)
    refine z_iload S dL_law__1592 5 rfl ?_
    have hfin : Z X 3 p l e room_1 s m args below meth c (cells + 3) (slots + 18) Q 7 (mk3 Nc Nr g2) 1609 [(0, .ref b), (1, .ref (X.2.2 1)), (2, .ref (X.2.2 109)), (3, .ref (X.2.2 108)), (4, .int i), (5, .int (gI Nr 109 0)), (6, .int v)] [] := by
      refine z_goto (tgt := 2391) S dL_law__1609 (by decide) ?_
      refine z_lv (ks := [0, 1, 2, 3, 4]) rfl ?_
      exact kk g2
    by_cases ht : gI Nr 109 0 = 0
    · refine z_if_ne (tgt := 1609) (A := true) (B := false) (x0 := true) S (if_pos ht) dL_law__1594 (by decide) (fun he => nomatch he) (fun _ => ?_)
      refine z_aload_n S dL_law__1597 rfl 3 rfl ?_
      refine z_iconst (v := 0) S dL_law__1598 (by decide) ?_
      refine z_lald (i := 108) (N := 1) (A := some ()) (x0 := ()) S ok3_108 (by decide +kernel) (by decide) dL_law__1599 (fun _ => ?_)
      refine z_iload S dL_law__1600 6 rfl ?_
      refine z_i2l S dL_law__1602 ?_
      refine z_lcmp S dL_law__1603 ?_
      refine z_if_eq (tgt := 1609) (A := true) (B := false) (x0 := true) S (if_pos (lgc_eq (hg2 ht))) dL_law__1604 (by decide) (fun _ => ?_) (fun he => nomatch he)
      exact hfin
    · refine z_if_ne (tgt := 1609) (A := true) (B := false) (x0 := false) S (if_neg ht) dL_law__1594 (by decide) (fun _ => ?_) (fun he => nomatch he)
      exact hfin
  · rw [show nb (xs (i + 1).toNatClampNeg) = 1 from if_neg hx1] at he hm
    refine z_aload_n S dL_law__1540 rfl 1 rfl ?_
    refine z_aload_n S dL_law__1541 rfl 0 rfl ?_
    refine z_iload S dL_law__1542 4 rfl ?_
    refine z_iconst (v := 1) S dL_law__1544 (by decide) ?_
    refine z_iadd S dL_law__1545 ?_
    refine z_sld S hX hbl hbA hin1 dL_law__1546 ?_
    refine z_if_eq (tgt := 1554) (A := true) (B := false) (x0 := false) S (if_neg hx1) dL_law__1547 (by decide) (fun he => nomatch he) (fun _ => ?_)
    refine z_iconst (v := 1) S dL_law__1550 (by decide) ?_
    refine z_goto (tgt := 1555) S dL_law__1551 (by decide) ?_
    refine z_aload_n S dL_law__1555 rfl 3 rfl ?_
    obtain ⟨g2, hw, hg2⟩ := okI_wr g hok
    refine z_cW (As := [.ref (X.2.2 1), .int 1, .ref (X.2.2 108)]) (rest := []) S hNC cw_RL_212 (K_L_wants (Mr := Mr) hl0 he hw) ⟨rfl, rfl⟩ ⟨Nat.le_of_ble_eq_true rfl, Nat.le_of_ble_eq_true rfl⟩ hcs1 rfl rfl (Nat.le_of_ble_eq_true rfl) dL_law__1556 ?_
    refine z_istore (lv' := [(0, .ref b), (1, .ref (X.2.2 1)), (2, .ref (X.2.2 109)), (3, .ref (X.2.2 108)), (4, .int i), (5, .int (gI Nr 109 0))]) S [1, 2, 3, 4, 5, 0] dL_law__1559 (by decide) rfl ?_
    refine z_aload_n S dL_law__1561 rfl 2 rfl ?_
    refine z_aload_n S dL_law__1562 rfl 0 rfl ?_
    refine z_iload S dL_law__1563 4 rfl ?_
    refine z_iconst (v := 1) S dL_law__1565 (by decide) ?_
    refine z_iadd S dL_law__1566 ?_
    refine z_sld S hX hbl hbA hin1 dL_law__1567 ?_
    refine z_if_eq (tgt := 1575) (A := true) (B := false) (x0 := false) S (if_neg hx1) dL_law__1568 (by decide) (fun he => nomatch he) (fun _ => ?_)
    refine z_iconst (v := 1) S dL_law__1571 (by decide) ?_
    refine z_goto (tgt := 1576) S dL_law__1572 (by decide) ?_
    refine z_wVI (v := 1) (As := [.int 1]) (rest := []) S ⟨by decide, by decide⟩ agr3r mix3r cv_RL_215 (K_X10_wants hm) ok3_109 (by decide) (q := (RX10, TX10, 28)) rfl rfl ⟨rfl, rfl⟩ ⟨Nat.le_of_ble_eq_true rfl, Nat.le_of_ble_eq_true rfl⟩ hcs1 rfl rfl (Nat.le_of_ble_eq_true rfl) dL_law__1576 ?_
    refine z_istore (lv' := [(0, .ref b), (1, .ref (X.2.2 1)), (2, .ref (X.2.2 109)), (3, .ref (X.2.2 108)), (4, .int i), (5, .int (gI Nr 109 0)), (6, .int v)]) S [1, 2, 3, 4, 5, 6, 0] dL_law__1579 (by decide) rfl ?_
    refine z_aload_n S dL_law__1581 rfl 2 rfl ?_
    refine z_wVI (v := 1) (As := []) (rest := []) S ⟨by decide, by decide⟩ agr3r mix3r cv_RL_127 (K_X10_thrown (M := Nr) rfl) ok3_109 (by decide) (q := (RX10, TX10, 28)) rfl rfl ⟨rfl, rfl⟩ ⟨Nat.le_of_ble_eq_true rfl, Nat.le_of_ble_eq_true rfl⟩ hcs1 rfl rfl (Nat.le_of_ble_eq_true rfl) dL_law__1582 ?_
    refine z_iload S dL_law__1585 5 rfl ?_
    refine z_icmp_eq (tgt := 1592) (A := true) (B := false) (x0 := true) S (if_pos rfl) dL_law__1587 (by decide) (fun _ => ?_) (fun he => nomatch he)
    refine z_iload S dL_law__1592 5 rfl ?_
    have hfin : Z X 3 p l e room_1 s m args below meth c (cells + 3) (slots + 18) Q 7 (mk3 Nc Nr g2) 1609 [(0, .ref b), (1, .ref (X.2.2 1)), (2, .ref (X.2.2 109)), (3, .ref (X.2.2 108)), (4, .int i), (5, .int (gI Nr 109 0)), (6, .int v)] [] := by
      refine z_goto (tgt := 2391) S dL_law__1609 (by decide) ?_
      refine z_lv (ks := [0, 1, 2, 3, 4]) rfl ?_
      exact kk g2
    by_cases ht : gI Nr 109 0 = 0
    · refine z_if_ne (tgt := 1609) (A := true) (B := false) (x0 := true) S (if_pos ht) dL_law__1594 (by decide) (fun he => nomatch he) (fun _ => ?_)
      refine z_aload_n S dL_law__1597 rfl 3 rfl ?_
      refine z_iconst (v := 0) S dL_law__1598 (by decide) ?_
      refine z_lald (i := 108) (N := 1) (A := some ()) (x0 := ()) S ok3_108 (by decide +kernel) (by decide) dL_law__1599 (fun _ => ?_)
      refine z_iload S dL_law__1600 6 rfl ?_
      refine z_i2l S dL_law__1602 ?_
      refine z_lcmp S dL_law__1603 ?_
      refine z_if_eq (tgt := 1609) (A := true) (B := false) (x0 := true) S (if_pos (lgc_eq (hg2 ht))) dL_law__1604 (by decide) (fun _ => ?_) (fun he => nomatch he)
      exact hfin
    · refine z_if_ne (tgt := 1609) (A := true) (B := false) (x0 := false) S (if_neg ht) dL_law__1594 (by decide) (fun _ => ?_) (fun he => nomatch he)
      exact hfin
set_option maxRecDepth 100000 in
set_option maxHeartbeats 4000000 in
theorem LC_27 {X : Cx} {p : Program} {l : Launch} {e : Env} {s : State} {m : MethodId} {args : Array Value} {below : List Frame} {meth : Method} {c : Code} {cells slots : Nat} {Q : State → Prop} {b L : Nat} {xs : Nat → Int32} (hl0 : l.stackTraces = false) (S : SB X 3 p s m args meth c cL_law_ 7 ret RL) (hNC : NCF s) (hX : va_X b L xs s s.heap) (hbl : b < s.heap.size) (hbA : ¬ AA X 3 s.heap.size b) {i : Int32} (hin1 : ibs (i + 1) L = true) (hin2 : ibs (i + 2) L = true) (hin3 : ibs (i + 3) L = true) (hin4 : ibs (i + 4) L = true) (hin5 : ibs (i + 5) L = true) (hcs0 : cells ≤ room_1.cells ∧ slots ≤ room_1.slots) (hcs1 : cells + 3 ≤ room_1.cells ∧ slots + 18 ≤ room_1.slots) {Mc Mr Nc Nr : Mm} {g : Nat → Int64} (hs : so_27 (xs (i + 1).toNatClampNeg) (xs (i + 2).toNatClampNeg) (xs (i + 3).toNatClampNeg) (xs (i + 4).toNatClampNeg) (xs (i + 5).toNatClampNeg) Mc Mr Nc Nr) (kk : ∀ g2, Z X 3 p l e room_1 s m args below meth c (cells + 3) (slots + 18) Q 7 (mk3 Nc Nr g2) 2391 [(0, .ref b), (1, .ref (X.2.2 1)), (2, .ref (X.2.2 109)), (3, .ref (X.2.2 108)), (4, .int i)] []) : Z X 3 p l e room_1 s m args below meth c cells slots Q 7 (mk3 Mc Mr g) 1612 [(0, .ref b), (1, .ref (X.2.2 1)), (2, .ref (X.2.2 109)), (3, .ref (X.2.2 108)), (4, .int i)] [] := by
  obtain ⟨rx, v, he, hm, hok⟩ := hs
  skip
  refine z_aload_n S dL_law__1612 rfl 1 rfl ?_
  refine z_aload_n S dL_law__1613 rfl 3 rfl ?_
  obtain ⟨g2, hw, hg2⟩ := okI_wr g hok
  refine z_cW (As := [.ref (X.2.2 1), .ref (X.2.2 108)]) (rest := []) S hNC cw_RL_216 (K_L_send (Mr := Mr) hl0 he hw) ⟨rfl, rfl⟩ ⟨Nat.le_of_ble_eq_true rfl, Nat.le_of_ble_eq_true rfl⟩ hcs1 rfl rfl (Nat.le_of_ble_eq_true rfl) dL_law__1614 ?_
  refine z_istore (lv' := [(0, .ref b), (1, .ref (X.2.2 1)), (2, .ref (X.2.2 109)), (3, .ref (X.2.2 108)), (4, .int i), (5, .int (gI Nr 109 0))]) S [1, 2, 3, 4, 5, 0] dL_law__1617 (by decide) rfl ?_
  refine z_aload_n S dL_law__1619 rfl 2 rfl ?_
  refine z_wVI (v := 1) (As := []) (rest := []) S ⟨by decide, by decide⟩ agr3r mix3r cv_RL_218 (K_X10_send hm) ok3_109 (by decide) (q := (RX10, TX10, 28)) rfl rfl ⟨rfl, rfl⟩ ⟨Nat.le_of_ble_eq_true rfl, Nat.le_of_ble_eq_true rfl⟩ hcs1 rfl rfl (Nat.le_of_ble_eq_true rfl) dL_law__1620 ?_
  refine z_istore (lv' := [(0, .ref b), (1, .ref (X.2.2 1)), (2, .ref (X.2.2 109)), (3, .ref (X.2.2 108)), (4, .int i), (5, .int (gI Nr 109 0)), (6, .int v)]) S [1, 2, 3, 4, 5, 6, 0] dL_law__1623 (by decide) rfl ?_
  refine z_aload_n S dL_law__1625 rfl 2 rfl ?_
  refine z_wVI (v := 1) (As := []) (rest := []) S ⟨by decide, by decide⟩ agr3r mix3r cv_RL_127 (K_X10_thrown (M := Nr) rfl) ok3_109 (by decide) (q := (RX10, TX10, 28)) rfl rfl ⟨rfl, rfl⟩ ⟨Nat.le_of_ble_eq_true rfl, Nat.le_of_ble_eq_true rfl⟩ hcs1 rfl rfl (Nat.le_of_ble_eq_true rfl) dL_law__1626 ?_
  refine z_iload S dL_law__1629 5 rfl ?_
  refine z_icmp_eq (tgt := 1636) (A := true) (B := false) (x0 := true) S (if_pos rfl) dL_law__1631 (by decide) (fun _ => ?_) (fun he => nomatch he)
  refine z_iload S dL_law__1636 5 rfl ?_
  have hfin : Z X 3 p l e room_1 s m args below meth c (cells + 3) (slots + 18) Q 7 (mk3 Nc Nr g2) 1653 [(0, .ref b), (1, .ref (X.2.2 1)), (2, .ref (X.2.2 109)), (3, .ref (X.2.2 108)), (4, .int i), (5, .int (gI Nr 109 0)), (6, .int v)] [] := by
    refine z_goto (tgt := 2391) S dL_law__1653 (by decide) ?_
    refine z_lv (ks := [0, 1, 2, 3, 4]) rfl ?_
    exact kk g2
  by_cases ht : gI Nr 109 0 = 0
  · refine z_if_ne (tgt := 1653) (A := true) (B := false) (x0 := true) S (if_pos ht) dL_law__1638 (by decide) (fun he => nomatch he) (fun _ => ?_)
    refine z_aload_n S dL_law__1641 rfl 3 rfl ?_
    refine z_iconst (v := 0) S dL_law__1642 (by decide) ?_
    refine z_lald (i := 108) (N := 1) (A := some ()) (x0 := ()) S ok3_108 (by decide +kernel) (by decide) dL_law__1643 (fun _ => ?_)
    refine z_iload S dL_law__1644 6 rfl ?_
    refine z_i2l S dL_law__1646 ?_
    refine z_lcmp S dL_law__1647 ?_
    refine z_if_eq (tgt := 1653) (A := true) (B := false) (x0 := true) S (if_pos (lgc_eq (hg2 ht))) dL_law__1648 (by decide) (fun _ => ?_) (fun he => nomatch he)
    exact hfin
  · refine z_if_ne (tgt := 1653) (A := true) (B := false) (x0 := false) S (if_neg ht) dL_law__1638 (by decide) (fun _ => ?_) (fun he => nomatch he)
    exact hfin
set_option maxRecDepth 100000 in
set_option maxHeartbeats 4000000 in
theorem LC_28 {X : Cx} {p : Program} {l : Launch} {e : Env} {s : State} {m : MethodId} {args : Array Value} {below : List Frame} {meth : Method} {c : Code} {cells slots : Nat} {Q : State → Prop} {b L : Nat} {xs : Nat → Int32} (hl0 : l.stackTraces = false) (S : SB X 3 p s m args meth c cL_law_ 7 ret RL) (hNC : NCF s) (hX : va_X b L xs s s.heap) (hbl : b < s.heap.size) (hbA : ¬ AA X 3 s.heap.size b) {i : Int32} (hin1 : ibs (i + 1) L = true) (hin2 : ibs (i + 2) L = true) (hin3 : ibs (i + 3) L = true) (hin4 : ibs (i + 4) L = true) (hin5 : ibs (i + 5) L = true) (hcs0 : cells ≤ room_1.cells ∧ slots ≤ room_1.slots) (hcs1 : cells + 3 ≤ room_1.cells ∧ slots + 18 ≤ room_1.slots) {Mc Mr Nc Nr : Mm} {g : Nat → Int64} (hs : so_28 (xs (i + 1).toNatClampNeg) (xs (i + 2).toNatClampNeg) (xs (i + 3).toNatClampNeg) (xs (i + 4).toNatClampNeg) (xs (i + 5).toNatClampNeg) Mc Mr Nc Nr) (kk : ∀ g2, Z X 3 p l e room_1 s m args below meth c (cells + 3) (slots + 18) Q 7 (mk3 Nc Nr g2) 2391 [(0, .ref b), (1, .ref (X.2.2 1)), (2, .ref (X.2.2 109)), (3, .ref (X.2.2 108)), (4, .int i)] []) : Z X 3 p l e room_1 s m args below meth c cells slots Q 7 (mk3 Mc Mr g) 1656 [(0, .ref b), (1, .ref (X.2.2 1)), (2, .ref (X.2.2 109)), (3, .ref (X.2.2 108)), (4, .int i)] [] := by
  obtain ⟨rx, v, he, hm, hok⟩ := hs
  skip
  refine z_aload_n S dL_law__1656 rfl 1 rfl ?_
  refine z_aload_n S dL_law__1657 rfl 0 rfl ?_
  refine z_iload S dL_law__1658 4 rfl ?_
  refine z_iconst (v := 1) S dL_law__1660 (by decide) ?_
  refine z_iadd S dL_law__1661 ?_
  refine z_sld S hX hbl hbA hin1 dL_law__1662 ?_
  refine z_aload_n S dL_law__1663 rfl 0 rfl ?_
  refine z_iload S dL_law__1664 4 rfl ?_
  refine z_iconst (v := 2) S dL_law__1666 (by decide) ?_
  refine z_iadd S dL_law__1667 ?_
  refine z_sld S hX hbl hbA hin2 dL_law__1668 ?_
  refine z_aload_n S dL_law__1669 rfl 0 rfl ?_
  refine z_iload S dL_law__1670 4 rfl ?_
  refine z_iconst (v := 3) S dL_law__1672 (by decide) ?_
  refine z_iadd S dL_law__1673 ?_
  refine z_sld S hX hbl hbA hin3 dL_law__1674 ?_
  refine z_aload_n S dL_law__1675 rfl 3 rfl ?_
  obtain ⟨g2, hw, hg2⟩ := okI_wr g hok
  refine z_cW (As := [.ref (X.2.2 1), .int (xs (i + 1).toNatClampNeg), .int (xs (i + 2).toNatClampNeg), .int (xs (i + 3).toNatClampNeg), .ref (X.2.2 108)]) (rest := []) S hNC cw_RL_219 (K_L_about (Mr := Mr) hl0 he hw) ⟨rfl, rfl⟩ ⟨Nat.le_of_ble_eq_true rfl, Nat.le_of_ble_eq_true rfl⟩ hcs1 rfl rfl (Nat.le_of_ble_eq_true rfl) dL_law__1676 ?_
  refine z_istore (lv' := [(0, .ref b), (1, .ref (X.2.2 1)), (2, .ref (X.2.2 109)), (3, .ref (X.2.2 108)), (4, .int i), (5, .int (gI Nr 109 0))]) S [1, 2, 3, 4, 5, 0] dL_law__1679 (by decide) rfl ?_
  refine z_aload_n S dL_law__1681 rfl 2 rfl ?_
  refine z_aload_n S dL_law__1682 rfl 0 rfl ?_
  refine z_iload S dL_law__1683 4 rfl ?_
  refine z_iconst (v := 1) S dL_law__1685 (by decide) ?_
  refine z_iadd S dL_law__1686 ?_
  refine z_sld S hX hbl hbA hin1 dL_law__1687 ?_
  refine z_aload_n S dL_law__1688 rfl 0 rfl ?_
  refine z_iload S dL_law__1689 4 rfl ?_
  refine z_iconst (v := 2) S dL_law__1691 (by decide) ?_
  refine z_iadd S dL_law__1692 ?_
  refine z_sld S hX hbl hbA hin2 dL_law__1693 ?_
  refine z_aload_n S dL_law__1694 rfl 0 rfl ?_
  refine z_iload S dL_law__1695 4 rfl ?_
  refine z_iconst (v := 3) S dL_law__1697 (by decide) ?_
  refine z_iadd S dL_law__1698 ?_
  refine z_sld S hX hbl hbA hin3 dL_law__1699 ?_
  refine z_wVI (v := 1) (As := [.int (xs (i + 1).toNatClampNeg), .int (xs (i + 2).toNatClampNeg), .int (xs (i + 3).toNatClampNeg)]) (rest := []) S ⟨by decide, by decide⟩ agr3r mix3r cv_RL_222 (K_X10_about hm) ok3_109 (by decide) (q := (RX10, TX10, 28)) rfl rfl ⟨rfl, rfl⟩ ⟨Nat.le_of_ble_eq_true rfl, Nat.le_of_ble_eq_true rfl⟩ hcs1 rfl rfl (Nat.le_of_ble_eq_true rfl) dL_law__1700 ?_
  refine z_istore (lv' := [(0, .ref b), (1, .ref (X.2.2 1)), (2, .ref (X.2.2 109)), (3, .ref (X.2.2 108)), (4, .int i), (5, .int (gI Nr 109 0)), (6, .int v)]) S [1, 2, 3, 4, 5, 6, 0] dL_law__1703 (by decide) rfl ?_
  refine z_aload_n S dL_law__1705 rfl 2 rfl ?_
  refine z_wVI (v := 1) (As := []) (rest := []) S ⟨by decide, by decide⟩ agr3r mix3r cv_RL_127 (K_X10_thrown (M := Nr) rfl) ok3_109 (by decide) (q := (RX10, TX10, 28)) rfl rfl ⟨rfl, rfl⟩ ⟨Nat.le_of_ble_eq_true rfl, Nat.le_of_ble_eq_true rfl⟩ hcs1 rfl rfl (Nat.le_of_ble_eq_true rfl) dL_law__1706 ?_
  refine z_iload S dL_law__1709 5 rfl ?_
  refine z_icmp_eq (tgt := 1716) (A := true) (B := false) (x0 := true) S (if_pos rfl) dL_law__1711 (by decide) (fun _ => ?_) (fun he => nomatch he)
  refine z_iload S dL_law__1716 5 rfl ?_
  have hfin : Z X 3 p l e room_1 s m args below meth c (cells + 3) (slots + 18) Q 7 (mk3 Nc Nr g2) 1733 [(0, .ref b), (1, .ref (X.2.2 1)), (2, .ref (X.2.2 109)), (3, .ref (X.2.2 108)), (4, .int i), (5, .int (gI Nr 109 0)), (6, .int v)] [] := by
    refine z_goto (tgt := 2391) S dL_law__1733 (by decide) ?_
    refine z_lv (ks := [0, 1, 2, 3, 4]) rfl ?_
    exact kk g2
  by_cases ht : gI Nr 109 0 = 0
  · refine z_if_ne (tgt := 1733) (A := true) (B := false) (x0 := true) S (if_pos ht) dL_law__1718 (by decide) (fun he => nomatch he) (fun _ => ?_)
    refine z_aload_n S dL_law__1721 rfl 3 rfl ?_
    refine z_iconst (v := 0) S dL_law__1722 (by decide) ?_
    refine z_lald (i := 108) (N := 1) (A := some ()) (x0 := ()) S ok3_108 (by decide +kernel) (by decide) dL_law__1723 (fun _ => ?_)
    refine z_iload S dL_law__1724 6 rfl ?_
    refine z_i2l S dL_law__1726 ?_
    refine z_lcmp S dL_law__1727 ?_
    refine z_if_eq (tgt := 1733) (A := true) (B := false) (x0 := true) S (if_pos (lgc_eq (hg2 ht))) dL_law__1728 (by decide) (fun _ => ?_) (fun he => nomatch he)
    exact hfin
  · refine z_if_ne (tgt := 1733) (A := true) (B := false) (x0 := false) S (if_neg ht) dL_law__1718 (by decide) (fun _ => ?_) (fun he => nomatch he)
    exact hfin
set_option maxRecDepth 100000 in
set_option maxHeartbeats 4000000 in
theorem LC_29 {X : Cx} {p : Program} {l : Launch} {e : Env} {s : State} {m : MethodId} {args : Array Value} {below : List Frame} {meth : Method} {c : Code} {cells slots : Nat} {Q : State → Prop} {b L : Nat} {xs : Nat → Int32} (hl0 : l.stackTraces = false) (S : SB X 3 p s m args meth c cL_law_ 7 ret RL) (hNC : NCF s) (hX : va_X b L xs s s.heap) (hbl : b < s.heap.size) (hbA : ¬ AA X 3 s.heap.size b) {i : Int32} (hin1 : ibs (i + 1) L = true) (hin2 : ibs (i + 2) L = true) (hin3 : ibs (i + 3) L = true) (hin4 : ibs (i + 4) L = true) (hin5 : ibs (i + 5) L = true) (hcs0 : cells ≤ room_1.cells ∧ slots ≤ room_1.slots) (hcs1 : cells + 3 ≤ room_1.cells ∧ slots + 18 ≤ room_1.slots) {Mc Mr Nc Nr : Mm} {g : Nat → Int64} (hs : so_29 (xs (i + 1).toNatClampNeg) (xs (i + 2).toNatClampNeg) (xs (i + 3).toNatClampNeg) (xs (i + 4).toNatClampNeg) (xs (i + 5).toNatClampNeg) Mc Mr Nc Nr) (kk : ∀ g2, Z X 3 p l e room_1 s m args below meth c (cells + 3) (slots + 18) Q 7 (mk3 Nc Nr g2) 2391 [(0, .ref b), (1, .ref (X.2.2 1)), (2, .ref (X.2.2 109)), (3, .ref (X.2.2 108)), (4, .int i)] []) : Z X 3 p l e room_1 s m args below meth c cells slots Q 7 (mk3 Mc Mr g) 1736 [(0, .ref b), (1, .ref (X.2.2 1)), (2, .ref (X.2.2 109)), (3, .ref (X.2.2 108)), (4, .int i)] [] := by
  obtain ⟨rx, v, he, hm, hok⟩ := hs
  skip
  refine z_aload_n S dL_law__1736 rfl 1 rfl ?_
  refine z_aload_n S dL_law__1737 rfl 0 rfl ?_
  refine z_iload S dL_law__1738 4 rfl ?_
  refine z_iconst (v := 1) S dL_law__1740 (by decide) ?_
  refine z_iadd S dL_law__1741 ?_
  refine z_sld S hX hbl hbA hin1 dL_law__1742 ?_
  refine z_aload_n S dL_law__1743 rfl 0 rfl ?_
  refine z_iload S dL_law__1744 4 rfl ?_
  refine z_iconst (v := 2) S dL_law__1746 (by decide) ?_
  refine z_iadd S dL_law__1747 ?_
  refine z_sld S hX hbl hbA hin2 dL_law__1748 ?_
  refine z_aload_n S dL_law__1749 rfl 0 rfl ?_
  refine z_iload S dL_law__1750 4 rfl ?_
  refine z_iconst (v := 3) S dL_law__1752 (by decide) ?_
  refine z_iadd S dL_law__1753 ?_
  refine z_sld S hX hbl hbA hin3 dL_law__1754 ?_
  refine z_aload_n S dL_law__1755 rfl 3 rfl ?_
  obtain ⟨g2, hw, hg2⟩ := okI_wr g hok
  refine z_cW (As := [.ref (X.2.2 1), .int (xs (i + 1).toNatClampNeg), .int (xs (i + 2).toNatClampNeg), .int (xs (i + 3).toNatClampNeg), .ref (X.2.2 108)]) (rest := []) S hNC cw_RL_223 (K_L_ahead (Mr := Mr) hl0 he hw) ⟨rfl, rfl⟩ ⟨Nat.le_of_ble_eq_true rfl, Nat.le_of_ble_eq_true rfl⟩ hcs1 rfl rfl (Nat.le_of_ble_eq_true rfl) dL_law__1756 ?_
  refine z_istore (lv' := [(0, .ref b), (1, .ref (X.2.2 1)), (2, .ref (X.2.2 109)), (3, .ref (X.2.2 108)), (4, .int i), (5, .int (gI Nr 109 0))]) S [1, 2, 3, 4, 5, 0] dL_law__1759 (by decide) rfl ?_
  refine z_aload_n S dL_law__1761 rfl 2 rfl ?_
  refine z_aload_n S dL_law__1762 rfl 0 rfl ?_
  refine z_iload S dL_law__1763 4 rfl ?_
  refine z_iconst (v := 1) S dL_law__1765 (by decide) ?_
  refine z_iadd S dL_law__1766 ?_
  refine z_sld S hX hbl hbA hin1 dL_law__1767 ?_
  refine z_aload_n S dL_law__1768 rfl 0 rfl ?_
  refine z_iload S dL_law__1769 4 rfl ?_
  refine z_iconst (v := 2) S dL_law__1771 (by decide) ?_
  refine z_iadd S dL_law__1772 ?_
  refine z_sld S hX hbl hbA hin2 dL_law__1773 ?_
  refine z_aload_n S dL_law__1774 rfl 0 rfl ?_
  refine z_iload S dL_law__1775 4 rfl ?_
  refine z_iconst (v := 3) S dL_law__1777 (by decide) ?_
  refine z_iadd S dL_law__1778 ?_
  refine z_sld S hX hbl hbA hin3 dL_law__1779 ?_
  refine z_wVI (v := 1) (As := [.int (xs (i + 1).toNatClampNeg), .int (xs (i + 2).toNatClampNeg), .int (xs (i + 3).toNatClampNeg)]) (rest := []) S ⟨by decide, by decide⟩ agr3r mix3r cv_RL_225 (K_X10_ahead hm) ok3_109 (by decide) (q := (RX10, TX10, 28)) rfl rfl ⟨rfl, rfl⟩ ⟨Nat.le_of_ble_eq_true rfl, Nat.le_of_ble_eq_true rfl⟩ hcs1 rfl rfl (Nat.le_of_ble_eq_true rfl) dL_law__1780 ?_
  refine z_istore (lv' := [(0, .ref b), (1, .ref (X.2.2 1)), (2, .ref (X.2.2 109)), (3, .ref (X.2.2 108)), (4, .int i), (5, .int (gI Nr 109 0)), (6, .int v)]) S [1, 2, 3, 4, 5, 6, 0] dL_law__1783 (by decide) rfl ?_
  refine z_aload_n S dL_law__1785 rfl 2 rfl ?_
  refine z_wVI (v := 1) (As := []) (rest := []) S ⟨by decide, by decide⟩ agr3r mix3r cv_RL_127 (K_X10_thrown (M := Nr) rfl) ok3_109 (by decide) (q := (RX10, TX10, 28)) rfl rfl ⟨rfl, rfl⟩ ⟨Nat.le_of_ble_eq_true rfl, Nat.le_of_ble_eq_true rfl⟩ hcs1 rfl rfl (Nat.le_of_ble_eq_true rfl) dL_law__1786 ?_
  refine z_iload S dL_law__1789 5 rfl ?_
  refine z_icmp_eq (tgt := 1796) (A := true) (B := false) (x0 := true) S (if_pos rfl) dL_law__1791 (by decide) (fun _ => ?_) (fun he => nomatch he)
  refine z_iload S dL_law__1796 5 rfl ?_
  have hfin : Z X 3 p l e room_1 s m args below meth c (cells + 3) (slots + 18) Q 7 (mk3 Nc Nr g2) 1813 [(0, .ref b), (1, .ref (X.2.2 1)), (2, .ref (X.2.2 109)), (3, .ref (X.2.2 108)), (4, .int i), (5, .int (gI Nr 109 0)), (6, .int v)] [] := by
    refine z_goto (tgt := 2391) S dL_law__1813 (by decide) ?_
    refine z_lv (ks := [0, 1, 2, 3, 4]) rfl ?_
    exact kk g2
  by_cases ht : gI Nr 109 0 = 0
  · refine z_if_ne (tgt := 1813) (A := true) (B := false) (x0 := true) S (if_pos ht) dL_law__1798 (by decide) (fun he => nomatch he) (fun _ => ?_)
    refine z_aload_n S dL_law__1801 rfl 3 rfl ?_
    refine z_iconst (v := 0) S dL_law__1802 (by decide) ?_
    refine z_lald (i := 108) (N := 1) (A := some ()) (x0 := ()) S ok3_108 (by decide +kernel) (by decide) dL_law__1803 (fun _ => ?_)
    refine z_iload S dL_law__1804 6 rfl ?_
    refine z_i2l S dL_law__1806 ?_
    refine z_lcmp S dL_law__1807 ?_
    refine z_if_eq (tgt := 1813) (A := true) (B := false) (x0 := true) S (if_pos (lgc_eq (hg2 ht))) dL_law__1808 (by decide) (fun _ => ?_) (fun he => nomatch he)
    exact hfin
  · refine z_if_ne (tgt := 1813) (A := true) (B := false) (x0 := false) S (if_neg ht) dL_law__1798 (by decide) (fun _ => ?_) (fun he => nomatch he)
    exact hfin
set_option maxRecDepth 100000 in
set_option maxHeartbeats 4000000 in
theorem LC_30 {X : Cx} {p : Program} {l : Launch} {e : Env} {s : State} {m : MethodId} {args : Array Value} {below : List Frame} {meth : Method} {c : Code} {cells slots : Nat} {Q : State → Prop} {b L : Nat} {xs : Nat → Int32} (hl0 : l.stackTraces = false) (S : SB X 3 p s m args meth c cL_law_ 7 ret RL) (hNC : NCF s) (hX : va_X b L xs s s.heap) (hbl : b < s.heap.size) (hbA : ¬ AA X 3 s.heap.size b) {i : Int32} (hin1 : ibs (i + 1) L = true) (hin2 : ibs (i + 2) L = true) (hin3 : ibs (i + 3) L = true) (hin4 : ibs (i + 4) L = true) (hin5 : ibs (i + 5) L = true) (hcs0 : cells ≤ room_1.cells ∧ slots ≤ room_1.slots) (hcs1 : cells + 3 ≤ room_1.cells ∧ slots + 18 ≤ room_1.slots) {Mc Mr Nc Nr : Mm} {g : Nat → Int64} (hs : so_30 (xs (i + 1).toNatClampNeg) (xs (i + 2).toNatClampNeg) (xs (i + 3).toNatClampNeg) (xs (i + 4).toNatClampNeg) (xs (i + 5).toNatClampNeg) Mc Mr Nc Nr) (kk : ∀ g2, Z X 3 p l e room_1 s m args below meth c (cells + 3) (slots + 18) Q 7 (mk3 Nc Nr g2) 2391 [(0, .ref b), (1, .ref (X.2.2 1)), (2, .ref (X.2.2 109)), (3, .ref (X.2.2 108)), (4, .int i)] []) : Z X 3 p l e room_1 s m args below meth c cells slots Q 7 (mk3 Mc Mr g) 1816 [(0, .ref b), (1, .ref (X.2.2 1)), (2, .ref (X.2.2 109)), (3, .ref (X.2.2 108)), (4, .int i)] [] := by
  obtain ⟨rx, v, he, hm, hok⟩ := hs
  by_cases hx2 : xs (i + 2).toNatClampNeg = 0
  · rw [show nb (xs (i + 2).toNatClampNeg) = 0 from if_pos hx2] at he hm
    refine z_aload_n S dL_law__1816 rfl 1 rfl ?_
    refine z_aload_n S dL_law__1817 rfl 0 rfl ?_
    refine z_iload S dL_law__1818 4 rfl ?_
    refine z_iconst (v := 1) S dL_law__1820 (by decide) ?_
    refine z_iadd S dL_law__1821 ?_
    refine z_sld S hX hbl hbA hin1 dL_law__1822 ?_
    refine z_aload_n S dL_law__1823 rfl 0 rfl ?_
    refine z_iload S dL_law__1824 4 rfl ?_
    refine z_iconst (v := 2) S dL_law__1826 (by decide) ?_
    refine z_iadd S dL_law__1827 ?_
    refine z_sld S hX hbl hbA hin2 dL_law__1828 ?_
    refine z_if_eq (tgt := 1836) (A := true) (B := false) (x0 := true) S (if_pos hx2) dL_law__1829 (by decide) (fun _ => ?_) (fun he => nomatch he)
    refine z_iconst (v := 0) S dL_law__1836 (by decide) ?_
    refine z_aload_n S dL_law__1837 rfl 3 rfl ?_
    obtain ⟨g2, hw, hg2⟩ := okI_wr g hok
    refine z_cW (As := [.ref (X.2.2 1), .int (xs (i + 1).toNatClampNeg), .int 0, .ref (X.2.2 108)]) (rest := []) S hNC cw_RL_226 (K_L_last (Mr := Mr) hl0 he hw) ⟨rfl, rfl⟩ ⟨Nat.le_of_ble_eq_true rfl, Nat.le_of_ble_eq_true rfl⟩ hcs1 rfl rfl (Nat.le_of_ble_eq_true rfl) dL_law__1838 ?_
    refine z_istore (lv' := [(0, .ref b), (1, .ref (X.2.2 1)), (2, .ref (X.2.2 109)), (3, .ref (X.2.2 108)), (4, .int i), (5, .int (gI Nr 109 0))]) S [1, 2, 3, 4, 5, 0] dL_law__1841 (by decide) rfl ?_
    refine z_aload_n S dL_law__1843 rfl 2 rfl ?_
    refine z_aload_n S dL_law__1844 rfl 0 rfl ?_
    refine z_iload S dL_law__1845 4 rfl ?_
    refine z_iconst (v := 1) S dL_law__1847 (by decide) ?_
    refine z_iadd S dL_law__1848 ?_
    refine z_sld S hX hbl hbA hin1 dL_law__1849 ?_
    refine z_aload_n S dL_law__1850 rfl 0 rfl ?_
    refine z_iload S dL_law__1851 4 rfl ?_
    refine z_iconst (v := 2) S dL_law__1853 (by decide) ?_
    refine z_iadd S dL_law__1854 ?_
    refine z_sld S hX hbl hbA hin2 dL_law__1855 ?_
    refine z_if_eq (tgt := 1863) (A := true) (B := false) (x0 := true) S (if_pos hx2) dL_law__1856 (by decide) (fun _ => ?_) (fun he => nomatch he)
    refine z_iconst (v := 0) S dL_law__1863 (by decide) ?_
    refine z_wVI (v := 1) (As := [.int (xs (i + 1).toNatClampNeg), .int 0]) (rest := []) S ⟨by decide, by decide⟩ agr3r mix3r cv_RL_228 (K_X10_last hm) ok3_109 (by decide) (q := (RX10, TX10, 28)) rfl rfl ⟨rfl, rfl⟩ ⟨Nat.le_of_ble_eq_true rfl, Nat.le_of_ble_eq_true rfl⟩ hcs1 rfl rfl (Nat.le_of_ble_eq_true rfl) dL_law__1864 ?_
    refine z_istore (lv' := [(0, .ref b), (1, .ref (X.2.2 1)), (2, .ref (X.2.2 109)), (3, .ref (X.2.2 108)), (4, .int i), (5, .int (gI Nr 109 0)), (6, .int v)]) S [1, 2, 3, 4, 5, 6, 0] dL_law__1867 (by decide) rfl ?_
    refine z_aload_n S dL_law__1869 rfl 2 rfl ?_
    refine z_wVI (v := 1) (As := []) (rest := []) S ⟨by decide, by decide⟩ agr3r mix3r cv_RL_127 (K_X10_thrown (M := Nr) rfl) ok3_109 (by decide) (q := (RX10, TX10, 28)) rfl rfl ⟨rfl, rfl⟩ ⟨Nat.le_of_ble_eq_true rfl, Nat.le_of_ble_eq_true rfl⟩ hcs1 rfl rfl (Nat.le_of_ble_eq_true rfl) dL_law__1870 ?_
    refine z_iload S dL_law__1873 5 rfl ?_
    refine z_icmp_eq (tgt := 1880) (A := true) (B := false) (x0 := true) S (if_pos rfl) dL_law__1875 (by decide) (fun _ => ?_) (fun he => nomatch he)
    refine z_iload S dL_law__1880 5 rfl ?_
    have hfin : Z X 3 p l e room_1 s m args below meth c (cells + 3) (slots + 18) Q 7 (mk3 Nc Nr g2) 1897 [(0, .ref b), (1, .ref (X.2.2 1)), (2, .ref (X.2.2 109)), (3, .ref (X.2.2 108)), (4, .int i), (5, .int (gI Nr 109 0)), (6, .int v)] [] := by
      refine z_goto (tgt := 2391) S dL_law__1897 (by decide) ?_
      refine z_lv (ks := [0, 1, 2, 3, 4]) rfl ?_
      exact kk g2
    by_cases ht : gI Nr 109 0 = 0
    · refine z_if_ne (tgt := 1897) (A := true) (B := false) (x0 := true) S (if_pos ht) dL_law__1882 (by decide) (fun he => nomatch he) (fun _ => ?_)
      refine z_aload_n S dL_law__1885 rfl 3 rfl ?_
      refine z_iconst (v := 0) S dL_law__1886 (by decide) ?_
      refine z_lald (i := 108) (N := 1) (A := some ()) (x0 := ()) S ok3_108 (by decide +kernel) (by decide) dL_law__1887 (fun _ => ?_)
      refine z_iload S dL_law__1888 6 rfl ?_
      refine z_i2l S dL_law__1890 ?_
      refine z_lcmp S dL_law__1891 ?_
      refine z_if_eq (tgt := 1897) (A := true) (B := false) (x0 := true) S (if_pos (lgc_eq (hg2 ht))) dL_law__1892 (by decide) (fun _ => ?_) (fun he => nomatch he)
      exact hfin
    · refine z_if_ne (tgt := 1897) (A := true) (B := false) (x0 := false) S (if_neg ht) dL_law__1882 (by decide) (fun _ => ?_) (fun he => nomatch he)
      exact hfin
  · rw [show nb (xs (i + 2).toNatClampNeg) = 1 from if_neg hx2] at he hm
    refine z_aload_n S dL_law__1816 rfl 1 rfl ?_
    refine z_aload_n S dL_law__1817 rfl 0 rfl ?_
    refine z_iload S dL_law__1818 4 rfl ?_
    refine z_iconst (v := 1) S dL_law__1820 (by decide) ?_
    refine z_iadd S dL_law__1821 ?_
    refine z_sld S hX hbl hbA hin1 dL_law__1822 ?_
    refine z_aload_n S dL_law__1823 rfl 0 rfl ?_
    refine z_iload S dL_law__1824 4 rfl ?_
    refine z_iconst (v := 2) S dL_law__1826 (by decide) ?_
    refine z_iadd S dL_law__1827 ?_
    refine z_sld S hX hbl hbA hin2 dL_law__1828 ?_
    refine z_if_eq (tgt := 1836) (A := true) (B := false) (x0 := false) S (if_neg hx2) dL_law__1829 (by decide) (fun he => nomatch he) (fun _ => ?_)
    refine z_iconst (v := 1) S dL_law__1832 (by decide) ?_
    refine z_goto (tgt := 1837) S dL_law__1833 (by decide) ?_
    refine z_aload_n S dL_law__1837 rfl 3 rfl ?_
    obtain ⟨g2, hw, hg2⟩ := okI_wr g hok
    refine z_cW (As := [.ref (X.2.2 1), .int (xs (i + 1).toNatClampNeg), .int 1, .ref (X.2.2 108)]) (rest := []) S hNC cw_RL_226 (K_L_last (Mr := Mr) hl0 he hw) ⟨rfl, rfl⟩ ⟨Nat.le_of_ble_eq_true rfl, Nat.le_of_ble_eq_true rfl⟩ hcs1 rfl rfl (Nat.le_of_ble_eq_true rfl) dL_law__1838 ?_
    refine z_istore (lv' := [(0, .ref b), (1, .ref (X.2.2 1)), (2, .ref (X.2.2 109)), (3, .ref (X.2.2 108)), (4, .int i), (5, .int (gI Nr 109 0))]) S [1, 2, 3, 4, 5, 0] dL_law__1841 (by decide) rfl ?_
    refine z_aload_n S dL_law__1843 rfl 2 rfl ?_
    refine z_aload_n S dL_law__1844 rfl 0 rfl ?_
    refine z_iload S dL_law__1845 4 rfl ?_
    refine z_iconst (v := 1) S dL_law__1847 (by decide) ?_
    refine z_iadd S dL_law__1848 ?_
    refine z_sld S hX hbl hbA hin1 dL_law__1849 ?_
    refine z_aload_n S dL_law__1850 rfl 0 rfl ?_
    refine z_iload S dL_law__1851 4 rfl ?_
    refine z_iconst (v := 2) S dL_law__1853 (by decide) ?_
    refine z_iadd S dL_law__1854 ?_
    refine z_sld S hX hbl hbA hin2 dL_law__1855 ?_
    refine z_if_eq (tgt := 1863) (A := true) (B := false) (x0 := false) S (if_neg hx2) dL_law__1856 (by decide) (fun he => nomatch he) (fun _ => ?_)
    refine z_iconst (v := 1) S dL_law__1859 (by decide) ?_
    refine z_goto (tgt := 1864) S dL_law__1860 (by decide) ?_
    refine z_wVI (v := 1) (As := [.int (xs (i + 1).toNatClampNeg), .int 1]) (rest := []) S ⟨by decide, by decide⟩ agr3r mix3r cv_RL_228 (K_X10_last hm) ok3_109 (by decide) (q := (RX10, TX10, 28)) rfl rfl ⟨rfl, rfl⟩ ⟨Nat.le_of_ble_eq_true rfl, Nat.le_of_ble_eq_true rfl⟩ hcs1 rfl rfl (Nat.le_of_ble_eq_true rfl) dL_law__1864 ?_
    refine z_istore (lv' := [(0, .ref b), (1, .ref (X.2.2 1)), (2, .ref (X.2.2 109)), (3, .ref (X.2.2 108)), (4, .int i), (5, .int (gI Nr 109 0)), (6, .int v)]) S [1, 2, 3, 4, 5, 6, 0] dL_law__1867 (by decide) rfl ?_
    refine z_aload_n S dL_law__1869 rfl 2 rfl ?_
    refine z_wVI (v := 1) (As := []) (rest := []) S ⟨by decide, by decide⟩ agr3r mix3r cv_RL_127 (K_X10_thrown (M := Nr) rfl) ok3_109 (by decide) (q := (RX10, TX10, 28)) rfl rfl ⟨rfl, rfl⟩ ⟨Nat.le_of_ble_eq_true rfl, Nat.le_of_ble_eq_true rfl⟩ hcs1 rfl rfl (Nat.le_of_ble_eq_true rfl) dL_law__1870 ?_
    refine z_iload S dL_law__1873 5 rfl ?_
    refine z_icmp_eq (tgt := 1880) (A := true) (B := false) (x0 := true) S (if_pos rfl) dL_law__1875 (by decide) (fun _ => ?_) (fun he => nomatch he)
    refine z_iload S dL_law__1880 5 rfl ?_
    have hfin : Z X 3 p l e room_1 s m args below meth c (cells + 3) (slots + 18) Q 7 (mk3 Nc Nr g2) 1897 [(0, .ref b), (1, .ref (X.2.2 1)), (2, .ref (X.2.2 109)), (3, .ref (X.2.2 108)), (4, .int i), (5, .int (gI Nr 109 0)), (6, .int v)] [] := by
      refine z_goto (tgt := 2391) S dL_law__1897 (by decide) ?_
      refine z_lv (ks := [0, 1, 2, 3, 4]) rfl ?_
      exact kk g2
    by_cases ht : gI Nr 109 0 = 0
    · refine z_if_ne (tgt := 1897) (A := true) (B := false) (x0 := true) S (if_pos ht) dL_law__1882 (by decide) (fun he => nomatch he) (fun _ => ?_)
      refine z_aload_n S dL_law__1885 rfl 3 rfl ?_
      refine z_iconst (v := 0) S dL_law__1886 (by decide) ?_
      refine z_lald (i := 108) (N := 1) (A := some ()) (x0 := ()) S ok3_108 (by decide +kernel) (by decide) dL_law__1887 (fun _ => ?_)
      refine z_iload S dL_law__1888 6 rfl ?_
      refine z_i2l S dL_law__1890 ?_
      refine z_lcmp S dL_law__1891 ?_
      refine z_if_eq (tgt := 1897) (A := true) (B := false) (x0 := true) S (if_pos (lgc_eq (hg2 ht))) dL_law__1892 (by decide) (fun _ => ?_) (fun he => nomatch he)
      exact hfin
    · refine z_if_ne (tgt := 1897) (A := true) (B := false) (x0 := false) S (if_neg ht) dL_law__1882 (by decide) (fun _ => ?_) (fun he => nomatch he)
      exact hfin
set_option maxRecDepth 100000 in
set_option maxHeartbeats 4000000 in
theorem LC_31 {X : Cx} {p : Program} {l : Launch} {e : Env} {s : State} {m : MethodId} {args : Array Value} {below : List Frame} {meth : Method} {c : Code} {cells slots : Nat} {Q : State → Prop} {b L : Nat} {xs : Nat → Int32} (hl0 : l.stackTraces = false) (S : SB X 3 p s m args meth c cL_law_ 7 ret RL) (hNC : NCF s) (hX : va_X b L xs s s.heap) (hbl : b < s.heap.size) (hbA : ¬ AA X 3 s.heap.size b) {i : Int32} (hin1 : ibs (i + 1) L = true) (hin2 : ibs (i + 2) L = true) (hin3 : ibs (i + 3) L = true) (hin4 : ibs (i + 4) L = true) (hin5 : ibs (i + 5) L = true) (hcs0 : cells ≤ room_1.cells ∧ slots ≤ room_1.slots) (hcs1 : cells + 3 ≤ room_1.cells ∧ slots + 18 ≤ room_1.slots) {Mc Mr Nc Nr : Mm} {g : Nat → Int64} (hs : so_31 (xs (i + 1).toNatClampNeg) (xs (i + 2).toNatClampNeg) (xs (i + 3).toNatClampNeg) (xs (i + 4).toNatClampNeg) (xs (i + 5).toNatClampNeg) Mc Mr Nc Nr) (kk : ∀ g2, Z X 3 p l e room_1 s m args below meth c (cells + 3) (slots + 18) Q 7 (mk3 Nc Nr g2) 2391 [(0, .ref b), (1, .ref (X.2.2 1)), (2, .ref (X.2.2 109)), (3, .ref (X.2.2 108)), (4, .int i)] []) : Z X 3 p l e room_1 s m args below meth c cells slots Q 7 (mk3 Mc Mr g) 1900 [(0, .ref b), (1, .ref (X.2.2 1)), (2, .ref (X.2.2 109)), (3, .ref (X.2.2 108)), (4, .int i)] [] := by
  obtain ⟨rx, v, he, hm, hok⟩ := hs
  skip
  refine z_aload_n S dL_law__1900 rfl 1 rfl ?_
  refine z_aload_n S dL_law__1901 rfl 0 rfl ?_
  refine z_iload S dL_law__1902 4 rfl ?_
  refine z_iconst (v := 1) S dL_law__1904 (by decide) ?_
  refine z_iadd S dL_law__1905 ?_
  refine z_sld S hX hbl hbA hin1 dL_law__1906 ?_
  refine z_aload_n S dL_law__1907 rfl 3 rfl ?_
  obtain ⟨g2, hw, hg2⟩ := okI_wr g hok
  refine z_cW (As := [.ref (X.2.2 1), .int (xs (i + 1).toNatClampNeg), .ref (X.2.2 108)]) (rest := []) S hNC cw_RL_229 (K_L_comes (Mr := Mr) hl0 he hw) ⟨rfl, rfl⟩ ⟨Nat.le_of_ble_eq_true rfl, Nat.le_of_ble_eq_true rfl⟩ hcs1 rfl rfl (Nat.le_of_ble_eq_true rfl) dL_law__1908 ?_
  refine z_istore (lv' := [(0, .ref b), (1, .ref (X.2.2 1)), (2, .ref (X.2.2 109)), (3, .ref (X.2.2 108)), (4, .int i), (5, .int (gI Nr 109 0))]) S [1, 2, 3, 4, 5, 0] dL_law__1911 (by decide) rfl ?_
  refine z_aload_n S dL_law__1913 rfl 2 rfl ?_
  refine z_aload_n S dL_law__1914 rfl 0 rfl ?_
  refine z_iload S dL_law__1915 4 rfl ?_
  refine z_iconst (v := 1) S dL_law__1917 (by decide) ?_
  refine z_iadd S dL_law__1918 ?_
  refine z_sld S hX hbl hbA hin1 dL_law__1919 ?_
  refine z_wVI (v := 1) (As := [.int (xs (i + 1).toNatClampNeg)]) (rest := []) S ⟨by decide, by decide⟩ agr3r mix3r cv_RL_231 (K_X10_comes hm) ok3_109 (by decide) (q := (RX10, TX10, 28)) rfl rfl ⟨rfl, rfl⟩ ⟨Nat.le_of_ble_eq_true rfl, Nat.le_of_ble_eq_true rfl⟩ hcs1 rfl rfl (Nat.le_of_ble_eq_true rfl) dL_law__1920 ?_
  refine z_istore (lv' := [(0, .ref b), (1, .ref (X.2.2 1)), (2, .ref (X.2.2 109)), (3, .ref (X.2.2 108)), (4, .int i), (5, .int (gI Nr 109 0)), (6, .int v)]) S [1, 2, 3, 4, 5, 6, 0] dL_law__1923 (by decide) rfl ?_
  refine z_aload_n S dL_law__1925 rfl 2 rfl ?_
  refine z_wVI (v := 1) (As := []) (rest := []) S ⟨by decide, by decide⟩ agr3r mix3r cv_RL_127 (K_X10_thrown (M := Nr) rfl) ok3_109 (by decide) (q := (RX10, TX10, 28)) rfl rfl ⟨rfl, rfl⟩ ⟨Nat.le_of_ble_eq_true rfl, Nat.le_of_ble_eq_true rfl⟩ hcs1 rfl rfl (Nat.le_of_ble_eq_true rfl) dL_law__1926 ?_
  refine z_iload S dL_law__1929 5 rfl ?_
  refine z_icmp_eq (tgt := 1936) (A := true) (B := false) (x0 := true) S (if_pos rfl) dL_law__1931 (by decide) (fun _ => ?_) (fun he => nomatch he)
  refine z_iload S dL_law__1936 5 rfl ?_
  have hfin : Z X 3 p l e room_1 s m args below meth c (cells + 3) (slots + 18) Q 7 (mk3 Nc Nr g2) 1953 [(0, .ref b), (1, .ref (X.2.2 1)), (2, .ref (X.2.2 109)), (3, .ref (X.2.2 108)), (4, .int i), (5, .int (gI Nr 109 0)), (6, .int v)] [] := by
    refine z_goto (tgt := 2391) S dL_law__1953 (by decide) ?_
    refine z_lv (ks := [0, 1, 2, 3, 4]) rfl ?_
    exact kk g2
  by_cases ht : gI Nr 109 0 = 0
  · refine z_if_ne (tgt := 1953) (A := true) (B := false) (x0 := true) S (if_pos ht) dL_law__1938 (by decide) (fun he => nomatch he) (fun _ => ?_)
    refine z_aload_n S dL_law__1941 rfl 3 rfl ?_
    refine z_iconst (v := 0) S dL_law__1942 (by decide) ?_
    refine z_lald (i := 108) (N := 1) (A := some ()) (x0 := ()) S ok3_108 (by decide +kernel) (by decide) dL_law__1943 (fun _ => ?_)
    refine z_iload S dL_law__1944 6 rfl ?_
    refine z_i2l S dL_law__1946 ?_
    refine z_lcmp S dL_law__1947 ?_
    refine z_if_eq (tgt := 1953) (A := true) (B := false) (x0 := true) S (if_pos (lgc_eq (hg2 ht))) dL_law__1948 (by decide) (fun _ => ?_) (fun he => nomatch he)
    exact hfin
  · refine z_if_ne (tgt := 1953) (A := true) (B := false) (x0 := false) S (if_neg ht) dL_law__1938 (by decide) (fun _ => ?_) (fun he => nomatch he)
    exact hfin
set_option maxRecDepth 100000 in
set_option maxHeartbeats 4000000 in
theorem LC_32 {X : Cx} {p : Program} {l : Launch} {e : Env} {s : State} {m : MethodId} {args : Array Value} {below : List Frame} {meth : Method} {c : Code} {cells slots : Nat} {Q : State → Prop} {b L : Nat} {xs : Nat → Int32} (hl0 : l.stackTraces = false) (S : SB X 3 p s m args meth c cL_law_ 7 ret RL) (hNC : NCF s) (hX : va_X b L xs s s.heap) (hbl : b < s.heap.size) (hbA : ¬ AA X 3 s.heap.size b) {i : Int32} (hin1 : ibs (i + 1) L = true) (hin2 : ibs (i + 2) L = true) (hin3 : ibs (i + 3) L = true) (hin4 : ibs (i + 4) L = true) (hin5 : ibs (i + 5) L = true) (hcs0 : cells ≤ room_1.cells ∧ slots ≤ room_1.slots) (hcs1 : cells + 3 ≤ room_1.cells ∧ slots + 18 ≤ room_1.slots) {Mc Mr Nc Nr : Mm} {g : Nat → Int64} (hs : so_32 (xs (i + 1).toNatClampNeg) (xs (i + 2).toNatClampNeg) (xs (i + 3).toNatClampNeg) (xs (i + 4).toNatClampNeg) (xs (i + 5).toNatClampNeg) Mc Mr Nc Nr) (kk : ∀ g2, Z X 3 p l e room_1 s m args below meth c (cells + 3) (slots + 18) Q 7 (mk3 Nc Nr g2) 2391 [(0, .ref b), (1, .ref (X.2.2 1)), (2, .ref (X.2.2 109)), (3, .ref (X.2.2 108)), (4, .int i)] []) : Z X 3 p l e room_1 s m args below meth c cells slots Q 7 (mk3 Mc Mr g) 1956 [(0, .ref b), (1, .ref (X.2.2 1)), (2, .ref (X.2.2 109)), (3, .ref (X.2.2 108)), (4, .int i)] [] := by
  obtain ⟨rx, v, he, hm, hok⟩ := hs
  skip
  refine z_aload_n S dL_law__1956 rfl 1 rfl ?_
  refine z_aload_n S dL_law__1957 rfl 0 rfl ?_
  refine z_iload S dL_law__1958 4 rfl ?_
  refine z_iconst (v := 1) S dL_law__1960 (by decide) ?_
  refine z_iadd S dL_law__1961 ?_
  refine z_sld S hX hbl hbA hin1 dL_law__1962 ?_
  refine z_aload_n S dL_law__1963 rfl 3 rfl ?_
  obtain ⟨g2, hw, hg2⟩ := okI_wr g hok
  refine z_cW (As := [.ref (X.2.2 1), .int (xs (i + 1).toNatClampNeg), .ref (X.2.2 108)]) (rest := []) S hNC cw_RL_232 (K_L_steps (Mr := Mr) hl0 he hw) ⟨rfl, rfl⟩ ⟨Nat.le_of_ble_eq_true rfl, Nat.le_of_ble_eq_true rfl⟩ hcs1 rfl rfl (Nat.le_of_ble_eq_true rfl) dL_law__1964 ?_
  refine z_istore (lv' := [(0, .ref b), (1, .ref (X.2.2 1)), (2, .ref (X.2.2 109)), (3, .ref (X.2.2 108)), (4, .int i), (5, .int (gI Nr 109 0))]) S [1, 2, 3, 4, 5, 0] dL_law__1967 (by decide) rfl ?_
  refine z_aload_n S dL_law__1969 rfl 2 rfl ?_
  refine z_aload_n S dL_law__1970 rfl 0 rfl ?_
  refine z_iload S dL_law__1971 4 rfl ?_
  refine z_iconst (v := 1) S dL_law__1973 (by decide) ?_
  refine z_iadd S dL_law__1974 ?_
  refine z_sld S hX hbl hbA hin1 dL_law__1975 ?_
  refine z_wVI (v := 1) (As := [.int (xs (i + 1).toNatClampNeg)]) (rest := []) S ⟨by decide, by decide⟩ agr3r mix3r cv_RL_234 (K_X10_steps hm) ok3_109 (by decide) (q := (RX10, TX10, 28)) rfl rfl ⟨rfl, rfl⟩ ⟨Nat.le_of_ble_eq_true rfl, Nat.le_of_ble_eq_true rfl⟩ hcs1 rfl rfl (Nat.le_of_ble_eq_true rfl) dL_law__1976 ?_
  refine z_istore (lv' := [(0, .ref b), (1, .ref (X.2.2 1)), (2, .ref (X.2.2 109)), (3, .ref (X.2.2 108)), (4, .int i), (5, .int (gI Nr 109 0)), (6, .int v)]) S [1, 2, 3, 4, 5, 6, 0] dL_law__1979 (by decide) rfl ?_
  refine z_aload_n S dL_law__1981 rfl 2 rfl ?_
  refine z_wVI (v := 1) (As := []) (rest := []) S ⟨by decide, by decide⟩ agr3r mix3r cv_RL_127 (K_X10_thrown (M := Nr) rfl) ok3_109 (by decide) (q := (RX10, TX10, 28)) rfl rfl ⟨rfl, rfl⟩ ⟨Nat.le_of_ble_eq_true rfl, Nat.le_of_ble_eq_true rfl⟩ hcs1 rfl rfl (Nat.le_of_ble_eq_true rfl) dL_law__1982 ?_
  refine z_iload S dL_law__1985 5 rfl ?_
  refine z_icmp_eq (tgt := 1992) (A := true) (B := false) (x0 := true) S (if_pos rfl) dL_law__1987 (by decide) (fun _ => ?_) (fun he => nomatch he)
  refine z_iload S dL_law__1992 5 rfl ?_
  have hfin : Z X 3 p l e room_1 s m args below meth c (cells + 3) (slots + 18) Q 7 (mk3 Nc Nr g2) 2009 [(0, .ref b), (1, .ref (X.2.2 1)), (2, .ref (X.2.2 109)), (3, .ref (X.2.2 108)), (4, .int i), (5, .int (gI Nr 109 0)), (6, .int v)] [] := by
    refine z_goto (tgt := 2391) S dL_law__2009 (by decide) ?_
    refine z_lv (ks := [0, 1, 2, 3, 4]) rfl ?_
    exact kk g2
  by_cases ht : gI Nr 109 0 = 0
  · refine z_if_ne (tgt := 2009) (A := true) (B := false) (x0 := true) S (if_pos ht) dL_law__1994 (by decide) (fun he => nomatch he) (fun _ => ?_)
    refine z_aload_n S dL_law__1997 rfl 3 rfl ?_
    refine z_iconst (v := 0) S dL_law__1998 (by decide) ?_
    refine z_lald (i := 108) (N := 1) (A := some ()) (x0 := ()) S ok3_108 (by decide +kernel) (by decide) dL_law__1999 (fun _ => ?_)
    refine z_iload S dL_law__2000 6 rfl ?_
    refine z_i2l S dL_law__2002 ?_
    refine z_lcmp S dL_law__2003 ?_
    refine z_if_eq (tgt := 2009) (A := true) (B := false) (x0 := true) S (if_pos (lgc_eq (hg2 ht))) dL_law__2004 (by decide) (fun _ => ?_) (fun he => nomatch he)
    exact hfin
  · refine z_if_ne (tgt := 2009) (A := true) (B := false) (x0 := false) S (if_neg ht) dL_law__1994 (by decide) (fun _ => ?_) (fun he => nomatch he)
    exact hfin
set_option maxRecDepth 100000 in
set_option maxHeartbeats 4000000 in
theorem LC_33 {X : Cx} {p : Program} {l : Launch} {e : Env} {s : State} {m : MethodId} {args : Array Value} {below : List Frame} {meth : Method} {c : Code} {cells slots : Nat} {Q : State → Prop} {b L : Nat} {xs : Nat → Int32} (hl0 : l.stackTraces = false) (S : SB X 3 p s m args meth c cL_law_ 7 ret RL) (hNC : NCF s) (hX : va_X b L xs s s.heap) (hbl : b < s.heap.size) (hbA : ¬ AA X 3 s.heap.size b) {i : Int32} (hin1 : ibs (i + 1) L = true) (hin2 : ibs (i + 2) L = true) (hin3 : ibs (i + 3) L = true) (hin4 : ibs (i + 4) L = true) (hin5 : ibs (i + 5) L = true) (hcs0 : cells ≤ room_1.cells ∧ slots ≤ room_1.slots) (hcs1 : cells + 3 ≤ room_1.cells ∧ slots + 18 ≤ room_1.slots) {Mc Mr Nc Nr : Mm} {g : Nat → Int64} (hs : so_33 (xs (i + 1).toNatClampNeg) (xs (i + 2).toNatClampNeg) (xs (i + 3).toNatClampNeg) (xs (i + 4).toNatClampNeg) (xs (i + 5).toNatClampNeg) Mc Mr Nc Nr) (kk : ∀ g2, Z X 3 p l e room_1 s m args below meth c (cells + 3) (slots + 18) Q 7 (mk3 Nc Nr g2) 2391 [(0, .ref b), (1, .ref (X.2.2 1)), (2, .ref (X.2.2 109)), (3, .ref (X.2.2 108)), (4, .int i)] []) : Z X 3 p l e room_1 s m args below meth c cells slots Q 7 (mk3 Mc Mr g) 2012 [(0, .ref b), (1, .ref (X.2.2 1)), (2, .ref (X.2.2 109)), (3, .ref (X.2.2 108)), (4, .int i)] [] := by
  obtain ⟨rx, v, he, hm, hok⟩ := hs
  skip
  refine z_aload_n S dL_law__2012 rfl 1 rfl ?_
  refine z_aload_n S dL_law__2013 rfl 0 rfl ?_
  refine z_iload S dL_law__2014 4 rfl ?_
  refine z_iconst (v := 1) S dL_law__2016 (by decide) ?_
  refine z_iadd S dL_law__2017 ?_
  refine z_sld S hX hbl hbA hin1 dL_law__2018 ?_
  refine z_aload_n S dL_law__2019 rfl 3 rfl ?_
  obtain ⟨g2, hw, hg2⟩ := okI_wr g hok
  refine z_cW (As := [.ref (X.2.2 1), .int (xs (i + 1).toNatClampNeg), .ref (X.2.2 108)]) (rest := []) S hNC cw_RL_235 (K_L_trial (Mr := Mr) hl0 he hw) ⟨rfl, rfl⟩ ⟨Nat.le_of_ble_eq_true rfl, Nat.le_of_ble_eq_true rfl⟩ hcs1 rfl rfl (Nat.le_of_ble_eq_true rfl) dL_law__2020 ?_
  refine z_istore (lv' := [(0, .ref b), (1, .ref (X.2.2 1)), (2, .ref (X.2.2 109)), (3, .ref (X.2.2 108)), (4, .int i), (5, .int (gI Nr 109 0))]) S [1, 2, 3, 4, 5, 0] dL_law__2023 (by decide) rfl ?_
  refine z_aload_n S dL_law__2025 rfl 2 rfl ?_
  refine z_aload_n S dL_law__2026 rfl 0 rfl ?_
  refine z_iload S dL_law__2027 4 rfl ?_
  refine z_iconst (v := 1) S dL_law__2029 (by decide) ?_
  refine z_iadd S dL_law__2030 ?_
  refine z_sld S hX hbl hbA hin1 dL_law__2031 ?_
  refine z_wVI (v := 1) (As := [.int (xs (i + 1).toNatClampNeg)]) (rest := []) S ⟨by decide, by decide⟩ agr3r mix3r cv_RL_237 (K_X10_trial hm) ok3_109 (by decide) (q := (RX10, TX10, 28)) rfl rfl ⟨rfl, rfl⟩ ⟨Nat.le_of_ble_eq_true rfl, Nat.le_of_ble_eq_true rfl⟩ hcs1 rfl rfl (Nat.le_of_ble_eq_true rfl) dL_law__2032 ?_
  refine z_istore (lv' := [(0, .ref b), (1, .ref (X.2.2 1)), (2, .ref (X.2.2 109)), (3, .ref (X.2.2 108)), (4, .int i), (5, .int (gI Nr 109 0)), (6, .int v)]) S [1, 2, 3, 4, 5, 6, 0] dL_law__2035 (by decide) rfl ?_
  refine z_aload_n S dL_law__2037 rfl 2 rfl ?_
  refine z_wVI (v := 1) (As := []) (rest := []) S ⟨by decide, by decide⟩ agr3r mix3r cv_RL_127 (K_X10_thrown (M := Nr) rfl) ok3_109 (by decide) (q := (RX10, TX10, 28)) rfl rfl ⟨rfl, rfl⟩ ⟨Nat.le_of_ble_eq_true rfl, Nat.le_of_ble_eq_true rfl⟩ hcs1 rfl rfl (Nat.le_of_ble_eq_true rfl) dL_law__2038 ?_
  refine z_iload S dL_law__2041 5 rfl ?_
  refine z_icmp_eq (tgt := 2048) (A := true) (B := false) (x0 := true) S (if_pos rfl) dL_law__2043 (by decide) (fun _ => ?_) (fun he => nomatch he)
  refine z_iload S dL_law__2048 5 rfl ?_
  have hfin : Z X 3 p l e room_1 s m args below meth c (cells + 3) (slots + 18) Q 7 (mk3 Nc Nr g2) 2065 [(0, .ref b), (1, .ref (X.2.2 1)), (2, .ref (X.2.2 109)), (3, .ref (X.2.2 108)), (4, .int i), (5, .int (gI Nr 109 0)), (6, .int v)] [] := by
    refine z_goto (tgt := 2391) S dL_law__2065 (by decide) ?_
    refine z_lv (ks := [0, 1, 2, 3, 4]) rfl ?_
    exact kk g2
  by_cases ht : gI Nr 109 0 = 0
  · refine z_if_ne (tgt := 2065) (A := true) (B := false) (x0 := true) S (if_pos ht) dL_law__2050 (by decide) (fun he => nomatch he) (fun _ => ?_)
    refine z_aload_n S dL_law__2053 rfl 3 rfl ?_
    refine z_iconst (v := 0) S dL_law__2054 (by decide) ?_
    refine z_lald (i := 108) (N := 1) (A := some ()) (x0 := ()) S ok3_108 (by decide +kernel) (by decide) dL_law__2055 (fun _ => ?_)
    refine z_iload S dL_law__2056 6 rfl ?_
    refine z_i2l S dL_law__2058 ?_
    refine z_lcmp S dL_law__2059 ?_
    refine z_if_eq (tgt := 2065) (A := true) (B := false) (x0 := true) S (if_pos (lgc_eq (hg2 ht))) dL_law__2060 (by decide) (fun _ => ?_) (fun he => nomatch he)
    exact hfin
  · refine z_if_ne (tgt := 2065) (A := true) (B := false) (x0 := false) S (if_neg ht) dL_law__2050 (by decide) (fun _ => ?_) (fun he => nomatch he)
    exact hfin
set_option maxRecDepth 100000 in
set_option maxHeartbeats 4000000 in
theorem LC_34 {X : Cx} {p : Program} {l : Launch} {e : Env} {s : State} {m : MethodId} {args : Array Value} {below : List Frame} {meth : Method} {c : Code} {cells slots : Nat} {Q : State → Prop} {b L : Nat} {xs : Nat → Int32} (hl0 : l.stackTraces = false) (S : SB X 3 p s m args meth c cL_law_ 7 ret RL) (hNC : NCF s) (hX : va_X b L xs s s.heap) (hbl : b < s.heap.size) (hbA : ¬ AA X 3 s.heap.size b) {i : Int32} (hin1 : ibs (i + 1) L = true) (hin2 : ibs (i + 2) L = true) (hin3 : ibs (i + 3) L = true) (hin4 : ibs (i + 4) L = true) (hin5 : ibs (i + 5) L = true) (hcs0 : cells ≤ room_1.cells ∧ slots ≤ room_1.slots) (hcs1 : cells + 3 ≤ room_1.cells ∧ slots + 18 ≤ room_1.slots) {Mc Mr Nc Nr : Mm} {g : Nat → Int64} (hs : so_34 (xs (i + 1).toNatClampNeg) (xs (i + 2).toNatClampNeg) (xs (i + 3).toNatClampNeg) (xs (i + 4).toNatClampNeg) (xs (i + 5).toNatClampNeg) Mc Mr Nc Nr) (kk : ∀ g2, Z X 3 p l e room_1 s m args below meth c (cells + 3) (slots + 18) Q 7 (mk3 Nc Nr g2) 2391 [(0, .ref b), (1, .ref (X.2.2 1)), (2, .ref (X.2.2 109)), (3, .ref (X.2.2 108)), (4, .int i)] []) : Z X 3 p l e room_1 s m args below meth c cells slots Q 7 (mk3 Mc Mr g) 2068 [(0, .ref b), (1, .ref (X.2.2 1)), (2, .ref (X.2.2 109)), (3, .ref (X.2.2 108)), (4, .int i)] [] := by
  obtain ⟨rx, v, he, hm, hok⟩ := hs
  by_cases hx2 : xs (i + 2).toNatClampNeg = 0
  · rw [show nb (xs (i + 2).toNatClampNeg) = 0 from if_pos hx2] at he hm
    refine z_aload_n S dL_law__2068 rfl 1 rfl ?_
    refine z_aload_n S dL_law__2069 rfl 0 rfl ?_
    refine z_iload S dL_law__2070 4 rfl ?_
    refine z_iconst (v := 1) S dL_law__2072 (by decide) ?_
    refine z_iadd S dL_law__2073 ?_
    refine z_sld S hX hbl hbA hin1 dL_law__2074 ?_
    refine z_aload_n S dL_law__2075 rfl 0 rfl ?_
    refine z_iload S dL_law__2076 4 rfl ?_
    refine z_iconst (v := 2) S dL_law__2078 (by decide) ?_
    refine z_iadd S dL_law__2079 ?_
    refine z_sld S hX hbl hbA hin2 dL_law__2080 ?_
    refine z_if_eq (tgt := 2088) (A := true) (B := false) (x0 := true) S (if_pos hx2) dL_law__2081 (by decide) (fun _ => ?_) (fun he => nomatch he)
    refine z_iconst (v := 0) S dL_law__2088 (by decide) ?_
    refine z_aload_n S dL_law__2089 rfl 3 rfl ?_
    obtain ⟨g2, hw, hg2⟩ := okI_wr g hok
    refine z_cW (As := [.ref (X.2.2 1), .int (xs (i + 1).toNatClampNeg), .int 0, .ref (X.2.2 108)]) (rest := []) S hNC cw_RL_238 (K_L_span (Mr := Mr) hl0 he hw) ⟨rfl, rfl⟩ ⟨Nat.le_of_ble_eq_true rfl, Nat.le_of_ble_eq_true rfl⟩ hcs1 rfl rfl (Nat.le_of_ble_eq_true rfl) dL_law__2090 ?_
    refine z_istore (lv' := [(0, .ref b), (1, .ref (X.2.2 1)), (2, .ref (X.2.2 109)), (3, .ref (X.2.2 108)), (4, .int i), (5, .int (gI Nr 109 0))]) S [1, 2, 3, 4, 5, 0] dL_law__2093 (by decide) rfl ?_
    refine z_aload_n S dL_law__2095 rfl 2 rfl ?_
    refine z_aload_n S dL_law__2096 rfl 0 rfl ?_
    refine z_iload S dL_law__2097 4 rfl ?_
    refine z_iconst (v := 1) S dL_law__2099 (by decide) ?_
    refine z_iadd S dL_law__2100 ?_
    refine z_sld S hX hbl hbA hin1 dL_law__2101 ?_
    refine z_aload_n S dL_law__2102 rfl 0 rfl ?_
    refine z_iload S dL_law__2103 4 rfl ?_
    refine z_iconst (v := 2) S dL_law__2105 (by decide) ?_
    refine z_iadd S dL_law__2106 ?_
    refine z_sld S hX hbl hbA hin2 dL_law__2107 ?_
    refine z_if_eq (tgt := 2115) (A := true) (B := false) (x0 := true) S (if_pos hx2) dL_law__2108 (by decide) (fun _ => ?_) (fun he => nomatch he)
    refine z_iconst (v := 0) S dL_law__2115 (by decide) ?_
    refine z_wVI (v := 1) (As := [.int (xs (i + 1).toNatClampNeg), .int 0]) (rest := []) S ⟨by decide, by decide⟩ agr3r mix3r cv_RL_240 (K_X10_span hm) ok3_109 (by decide) (q := (RX10, TX10, 28)) rfl rfl ⟨rfl, rfl⟩ ⟨Nat.le_of_ble_eq_true rfl, Nat.le_of_ble_eq_true rfl⟩ hcs1 rfl rfl (Nat.le_of_ble_eq_true rfl) dL_law__2116 ?_
    refine z_istore (lv' := [(0, .ref b), (1, .ref (X.2.2 1)), (2, .ref (X.2.2 109)), (3, .ref (X.2.2 108)), (4, .int i), (5, .int (gI Nr 109 0)), (6, .int v)]) S [1, 2, 3, 4, 5, 6, 0] dL_law__2119 (by decide) rfl ?_
    refine z_aload_n S dL_law__2121 rfl 2 rfl ?_
    refine z_wVI (v := 1) (As := []) (rest := []) S ⟨by decide, by decide⟩ agr3r mix3r cv_RL_127 (K_X10_thrown (M := Nr) rfl) ok3_109 (by decide) (q := (RX10, TX10, 28)) rfl rfl ⟨rfl, rfl⟩ ⟨Nat.le_of_ble_eq_true rfl, Nat.le_of_ble_eq_true rfl⟩ hcs1 rfl rfl (Nat.le_of_ble_eq_true rfl) dL_law__2122 ?_
    refine z_iload S dL_law__2125 5 rfl ?_
    refine z_icmp_eq (tgt := 2132) (A := true) (B := false) (x0 := true) S (if_pos rfl) dL_law__2127 (by decide) (fun _ => ?_) (fun he => nomatch he)
    refine z_iload S dL_law__2132 5 rfl ?_
    have hfin : Z X 3 p l e room_1 s m args below meth c (cells + 3) (slots + 18) Q 7 (mk3 Nc Nr g2) 2149 [(0, .ref b), (1, .ref (X.2.2 1)), (2, .ref (X.2.2 109)), (3, .ref (X.2.2 108)), (4, .int i), (5, .int (gI Nr 109 0)), (6, .int v)] [] := by
      refine z_goto (tgt := 2391) S dL_law__2149 (by decide) ?_
      refine z_lv (ks := [0, 1, 2, 3, 4]) rfl ?_
      exact kk g2
    by_cases ht : gI Nr 109 0 = 0
    · refine z_if_ne (tgt := 2149) (A := true) (B := false) (x0 := true) S (if_pos ht) dL_law__2134 (by decide) (fun he => nomatch he) (fun _ => ?_)
      refine z_aload_n S dL_law__2137 rfl 3 rfl ?_
      refine z_iconst (v := 0) S dL_law__2138 (by decide) ?_
      refine z_lald (i := 108) (N := 1) (A := some ()) (x0 := ()) S ok3_108 (by decide +kernel) (by decide) dL_law__2139 (fun _ => ?_)
      refine z_iload S dL_law__2140 6 rfl ?_
      refine z_i2l S dL_law__2142 ?_
      refine z_lcmp S dL_law__2143 ?_
      refine z_if_eq (tgt := 2149) (A := true) (B := false) (x0 := true) S (if_pos (lgc_eq (hg2 ht))) dL_law__2144 (by decide) (fun _ => ?_) (fun he => nomatch he)
      exact hfin
    · refine z_if_ne (tgt := 2149) (A := true) (B := false) (x0 := false) S (if_neg ht) dL_law__2134 (by decide) (fun _ => ?_) (fun he => nomatch he)
      exact hfin
  · rw [show nb (xs (i + 2).toNatClampNeg) = 1 from if_neg hx2] at he hm
    refine z_aload_n S dL_law__2068 rfl 1 rfl ?_
    refine z_aload_n S dL_law__2069 rfl 0 rfl ?_
    refine z_iload S dL_law__2070 4 rfl ?_
    refine z_iconst (v := 1) S dL_law__2072 (by decide) ?_
    refine z_iadd S dL_law__2073 ?_
    refine z_sld S hX hbl hbA hin1 dL_law__2074 ?_
    refine z_aload_n S dL_law__2075 rfl 0 rfl ?_
    refine z_iload S dL_law__2076 4 rfl ?_
    refine z_iconst (v := 2) S dL_law__2078 (by decide) ?_
    refine z_iadd S dL_law__2079 ?_
    refine z_sld S hX hbl hbA hin2 dL_law__2080 ?_
    refine z_if_eq (tgt := 2088) (A := true) (B := false) (x0 := false) S (if_neg hx2) dL_law__2081 (by decide) (fun he => nomatch he) (fun _ => ?_)
    refine z_iconst (v := 1) S dL_law__2084 (by decide) ?_
    refine z_goto (tgt := 2089) S dL_law__2085 (by decide) ?_
    refine z_aload_n S dL_law__2089 rfl 3 rfl ?_
    obtain ⟨g2, hw, hg2⟩ := okI_wr g hok
    refine z_cW (As := [.ref (X.2.2 1), .int (xs (i + 1).toNatClampNeg), .int 1, .ref (X.2.2 108)]) (rest := []) S hNC cw_RL_238 (K_L_span (Mr := Mr) hl0 he hw) ⟨rfl, rfl⟩ ⟨Nat.le_of_ble_eq_true rfl, Nat.le_of_ble_eq_true rfl⟩ hcs1 rfl rfl (Nat.le_of_ble_eq_true rfl) dL_law__2090 ?_
    refine z_istore (lv' := [(0, .ref b), (1, .ref (X.2.2 1)), (2, .ref (X.2.2 109)), (3, .ref (X.2.2 108)), (4, .int i), (5, .int (gI Nr 109 0))]) S [1, 2, 3, 4, 5, 0] dL_law__2093 (by decide) rfl ?_
    refine z_aload_n S dL_law__2095 rfl 2 rfl ?_
    refine z_aload_n S dL_law__2096 rfl 0 rfl ?_
    refine z_iload S dL_law__2097 4 rfl ?_
    refine z_iconst (v := 1) S dL_law__2099 (by decide) ?_
    refine z_iadd S dL_law__2100 ?_
    refine z_sld S hX hbl hbA hin1 dL_law__2101 ?_
    refine z_aload_n S dL_law__2102 rfl 0 rfl ?_
    refine z_iload S dL_law__2103 4 rfl ?_
    refine z_iconst (v := 2) S dL_law__2105 (by decide) ?_
    refine z_iadd S dL_law__2106 ?_
    refine z_sld S hX hbl hbA hin2 dL_law__2107 ?_
    refine z_if_eq (tgt := 2115) (A := true) (B := false) (x0 := false) S (if_neg hx2) dL_law__2108 (by decide) (fun he => nomatch he) (fun _ => ?_)
    refine z_iconst (v := 1) S dL_law__2111 (by decide) ?_
    refine z_goto (tgt := 2116) S dL_law__2112 (by decide) ?_
    refine z_wVI (v := 1) (As := [.int (xs (i + 1).toNatClampNeg), .int 1]) (rest := []) S ⟨by decide, by decide⟩ agr3r mix3r cv_RL_240 (K_X10_span hm) ok3_109 (by decide) (q := (RX10, TX10, 28)) rfl rfl ⟨rfl, rfl⟩ ⟨Nat.le_of_ble_eq_true rfl, Nat.le_of_ble_eq_true rfl⟩ hcs1 rfl rfl (Nat.le_of_ble_eq_true rfl) dL_law__2116 ?_
    refine z_istore (lv' := [(0, .ref b), (1, .ref (X.2.2 1)), (2, .ref (X.2.2 109)), (3, .ref (X.2.2 108)), (4, .int i), (5, .int (gI Nr 109 0)), (6, .int v)]) S [1, 2, 3, 4, 5, 6, 0] dL_law__2119 (by decide) rfl ?_
    refine z_aload_n S dL_law__2121 rfl 2 rfl ?_
    refine z_wVI (v := 1) (As := []) (rest := []) S ⟨by decide, by decide⟩ agr3r mix3r cv_RL_127 (K_X10_thrown (M := Nr) rfl) ok3_109 (by decide) (q := (RX10, TX10, 28)) rfl rfl ⟨rfl, rfl⟩ ⟨Nat.le_of_ble_eq_true rfl, Nat.le_of_ble_eq_true rfl⟩ hcs1 rfl rfl (Nat.le_of_ble_eq_true rfl) dL_law__2122 ?_
    refine z_iload S dL_law__2125 5 rfl ?_
    refine z_icmp_eq (tgt := 2132) (A := true) (B := false) (x0 := true) S (if_pos rfl) dL_law__2127 (by decide) (fun _ => ?_) (fun he => nomatch he)
    refine z_iload S dL_law__2132 5 rfl ?_
    have hfin : Z X 3 p l e room_1 s m args below meth c (cells + 3) (slots + 18) Q 7 (mk3 Nc Nr g2) 2149 [(0, .ref b), (1, .ref (X.2.2 1)), (2, .ref (X.2.2 109)), (3, .ref (X.2.2 108)), (4, .int i), (5, .int (gI Nr 109 0)), (6, .int v)] [] := by
      refine z_goto (tgt := 2391) S dL_law__2149 (by decide) ?_
      refine z_lv (ks := [0, 1, 2, 3, 4]) rfl ?_
      exact kk g2
    by_cases ht : gI Nr 109 0 = 0
    · refine z_if_ne (tgt := 2149) (A := true) (B := false) (x0 := true) S (if_pos ht) dL_law__2134 (by decide) (fun he => nomatch he) (fun _ => ?_)
      refine z_aload_n S dL_law__2137 rfl 3 rfl ?_
      refine z_iconst (v := 0) S dL_law__2138 (by decide) ?_
      refine z_lald (i := 108) (N := 1) (A := some ()) (x0 := ()) S ok3_108 (by decide +kernel) (by decide) dL_law__2139 (fun _ => ?_)
      refine z_iload S dL_law__2140 6 rfl ?_
      refine z_i2l S dL_law__2142 ?_
      refine z_lcmp S dL_law__2143 ?_
      refine z_if_eq (tgt := 2149) (A := true) (B := false) (x0 := true) S (if_pos (lgc_eq (hg2 ht))) dL_law__2144 (by decide) (fun _ => ?_) (fun he => nomatch he)
      exact hfin
    · refine z_if_ne (tgt := 2149) (A := true) (B := false) (x0 := false) S (if_neg ht) dL_law__2134 (by decide) (fun _ => ?_) (fun he => nomatch he)
      exact hfin
set_option maxRecDepth 100000 in
set_option maxHeartbeats 4000000 in
theorem LC_35 {X : Cx} {p : Program} {l : Launch} {e : Env} {s : State} {m : MethodId} {args : Array Value} {below : List Frame} {meth : Method} {c : Code} {cells slots : Nat} {Q : State → Prop} {b L : Nat} {xs : Nat → Int32} (hl0 : l.stackTraces = false) (S : SB X 3 p s m args meth c cL_law_ 7 ret RL) (hNC : NCF s) (hX : va_X b L xs s s.heap) (hbl : b < s.heap.size) (hbA : ¬ AA X 3 s.heap.size b) {i : Int32} (hin1 : ibs (i + 1) L = true) (hin2 : ibs (i + 2) L = true) (hin3 : ibs (i + 3) L = true) (hin4 : ibs (i + 4) L = true) (hin5 : ibs (i + 5) L = true) (hcs0 : cells ≤ room_1.cells ∧ slots ≤ room_1.slots) (hcs1 : cells + 3 ≤ room_1.cells ∧ slots + 18 ≤ room_1.slots) {Mc Mr Nc Nr : Mm} {g : Nat → Int64} (hs : so_35 (xs (i + 1).toNatClampNeg) (xs (i + 2).toNatClampNeg) (xs (i + 3).toNatClampNeg) (xs (i + 4).toNatClampNeg) (xs (i + 5).toNatClampNeg) Mc Mr Nc Nr) (kk : ∀ g2, Z X 3 p l e room_1 s m args below meth c (cells + 3) (slots + 18) Q 7 (mk3 Nc Nr g2) 2391 [(0, .ref b), (1, .ref (X.2.2 1)), (2, .ref (X.2.2 109)), (3, .ref (X.2.2 108)), (4, .int i)] []) : Z X 3 p l e room_1 s m args below meth c cells slots Q 7 (mk3 Mc Mr g) 2152 [(0, .ref b), (1, .ref (X.2.2 1)), (2, .ref (X.2.2 109)), (3, .ref (X.2.2 108)), (4, .int i)] [] := by
  obtain ⟨rx, v, he, hm, hok⟩ := hs
  by_cases hx2 : xs (i + 2).toNatClampNeg = 0
  · rw [show nb (xs (i + 2).toNatClampNeg) = 0 from if_pos hx2] at he hm
    refine z_aload_n S dL_law__2152 rfl 1 rfl ?_
    refine z_aload_n S dL_law__2153 rfl 0 rfl ?_
    refine z_iload S dL_law__2154 4 rfl ?_
    refine z_iconst (v := 1) S dL_law__2156 (by decide) ?_
    refine z_iadd S dL_law__2157 ?_
    refine z_sld S hX hbl hbA hin1 dL_law__2158 ?_
    refine z_aload_n S dL_law__2159 rfl 0 rfl ?_
    refine z_iload S dL_law__2160 4 rfl ?_
    refine z_iconst (v := 2) S dL_law__2162 (by decide) ?_
    refine z_iadd S dL_law__2163 ?_
    refine z_sld S hX hbl hbA hin2 dL_law__2164 ?_
    refine z_if_eq (tgt := 2172) (A := true) (B := false) (x0 := true) S (if_pos hx2) dL_law__2165 (by decide) (fun _ => ?_) (fun he => nomatch he)
    refine z_iconst (v := 0) S dL_law__2172 (by decide) ?_
    refine z_aload_n S dL_law__2173 rfl 3 rfl ?_
    obtain ⟨g2, hw, hg2⟩ := okI_wr g hok
    refine z_cW (As := [.ref (X.2.2 1), .int (xs (i + 1).toNatClampNeg), .int 0, .ref (X.2.2 108)]) (rest := []) S hNC cw_RL_241 (K_L_led (Mr := Mr) hl0 he hw) ⟨rfl, rfl⟩ ⟨Nat.le_of_ble_eq_true rfl, Nat.le_of_ble_eq_true rfl⟩ hcs1 rfl rfl (Nat.le_of_ble_eq_true rfl) dL_law__2174 ?_
    refine z_istore (lv' := [(0, .ref b), (1, .ref (X.2.2 1)), (2, .ref (X.2.2 109)), (3, .ref (X.2.2 108)), (4, .int i), (5, .int (gI Nr 109 0))]) S [1, 2, 3, 4, 5, 0] dL_law__2177 (by decide) rfl ?_
    refine z_aload_n S dL_law__2179 rfl 2 rfl ?_
    refine z_aload_n S dL_law__2180 rfl 0 rfl ?_
    refine z_iload S dL_law__2181 4 rfl ?_
    refine z_iconst (v := 1) S dL_law__2183 (by decide) ?_
    refine z_iadd S dL_law__2184 ?_
    refine z_sld S hX hbl hbA hin1 dL_law__2185 ?_
    refine z_aload_n S dL_law__2186 rfl 0 rfl ?_
    refine z_iload S dL_law__2187 4 rfl ?_
    refine z_iconst (v := 2) S dL_law__2189 (by decide) ?_
    refine z_iadd S dL_law__2190 ?_
    refine z_sld S hX hbl hbA hin2 dL_law__2191 ?_
    refine z_if_eq (tgt := 2199) (A := true) (B := false) (x0 := true) S (if_pos hx2) dL_law__2192 (by decide) (fun _ => ?_) (fun he => nomatch he)
    refine z_iconst (v := 0) S dL_law__2199 (by decide) ?_
    refine z_wVI (v := 1) (As := [.int (xs (i + 1).toNatClampNeg), .int 0]) (rest := []) S ⟨by decide, by decide⟩ agr3r mix3r cv_RL_243 (K_X10_led hm) ok3_109 (by decide) (q := (RX10, TX10, 28)) rfl rfl ⟨rfl, rfl⟩ ⟨Nat.le_of_ble_eq_true rfl, Nat.le_of_ble_eq_true rfl⟩ hcs1 rfl rfl (Nat.le_of_ble_eq_true rfl) dL_law__2200 ?_
    refine z_istore (lv' := [(0, .ref b), (1, .ref (X.2.2 1)), (2, .ref (X.2.2 109)), (3, .ref (X.2.2 108)), (4, .int i), (5, .int (gI Nr 109 0)), (6, .int v)]) S [1, 2, 3, 4, 5, 6, 0] dL_law__2203 (by decide) rfl ?_
    refine z_aload_n S dL_law__2205 rfl 2 rfl ?_
    refine z_wVI (v := 1) (As := []) (rest := []) S ⟨by decide, by decide⟩ agr3r mix3r cv_RL_127 (K_X10_thrown (M := Nr) rfl) ok3_109 (by decide) (q := (RX10, TX10, 28)) rfl rfl ⟨rfl, rfl⟩ ⟨Nat.le_of_ble_eq_true rfl, Nat.le_of_ble_eq_true rfl⟩ hcs1 rfl rfl (Nat.le_of_ble_eq_true rfl) dL_law__2206 ?_
    refine z_iload S dL_law__2209 5 rfl ?_
    refine z_icmp_eq (tgt := 2216) (A := true) (B := false) (x0 := true) S (if_pos rfl) dL_law__2211 (by decide) (fun _ => ?_) (fun he => nomatch he)
    refine z_iload S dL_law__2216 5 rfl ?_
    have hfin : Z X 3 p l e room_1 s m args below meth c (cells + 3) (slots + 18) Q 7 (mk3 Nc Nr g2) 2233 [(0, .ref b), (1, .ref (X.2.2 1)), (2, .ref (X.2.2 109)), (3, .ref (X.2.2 108)), (4, .int i), (5, .int (gI Nr 109 0)), (6, .int v)] [] := by
      refine z_goto (tgt := 2391) S dL_law__2233 (by decide) ?_
      refine z_lv (ks := [0, 1, 2, 3, 4]) rfl ?_
      exact kk g2
    by_cases ht : gI Nr 109 0 = 0
    · refine z_if_ne (tgt := 2233) (A := true) (B := false) (x0 := true) S (if_pos ht) dL_law__2218 (by decide) (fun he => nomatch he) (fun _ => ?_)
      refine z_aload_n S dL_law__2221 rfl 3 rfl ?_
      refine z_iconst (v := 0) S dL_law__2222 (by decide) ?_
      refine z_lald (i := 108) (N := 1) (A := some ()) (x0 := ()) S ok3_108 (by decide +kernel) (by decide) dL_law__2223 (fun _ => ?_)
      refine z_iload S dL_law__2224 6 rfl ?_
      refine z_i2l S dL_law__2226 ?_
      refine z_lcmp S dL_law__2227 ?_
      refine z_if_eq (tgt := 2233) (A := true) (B := false) (x0 := true) S (if_pos (lgc_eq (hg2 ht))) dL_law__2228 (by decide) (fun _ => ?_) (fun he => nomatch he)
      exact hfin
    · refine z_if_ne (tgt := 2233) (A := true) (B := false) (x0 := false) S (if_neg ht) dL_law__2218 (by decide) (fun _ => ?_) (fun he => nomatch he)
      exact hfin
  · rw [show nb (xs (i + 2).toNatClampNeg) = 1 from if_neg hx2] at he hm
    refine z_aload_n S dL_law__2152 rfl 1 rfl ?_
    refine z_aload_n S dL_law__2153 rfl 0 rfl ?_
    refine z_iload S dL_law__2154 4 rfl ?_
    refine z_iconst (v := 1) S dL_law__2156 (by decide) ?_
    refine z_iadd S dL_law__2157 ?_
    refine z_sld S hX hbl hbA hin1 dL_law__2158 ?_
    refine z_aload_n S dL_law__2159 rfl 0 rfl ?_
    refine z_iload S dL_law__2160 4 rfl ?_
    refine z_iconst (v := 2) S dL_law__2162 (by decide) ?_
    refine z_iadd S dL_law__2163 ?_
    refine z_sld S hX hbl hbA hin2 dL_law__2164 ?_
    refine z_if_eq (tgt := 2172) (A := true) (B := false) (x0 := false) S (if_neg hx2) dL_law__2165 (by decide) (fun he => nomatch he) (fun _ => ?_)
    refine z_iconst (v := 1) S dL_law__2168 (by decide) ?_
    refine z_goto (tgt := 2173) S dL_law__2169 (by decide) ?_
    refine z_aload_n S dL_law__2173 rfl 3 rfl ?_
    obtain ⟨g2, hw, hg2⟩ := okI_wr g hok
    refine z_cW (As := [.ref (X.2.2 1), .int (xs (i + 1).toNatClampNeg), .int 1, .ref (X.2.2 108)]) (rest := []) S hNC cw_RL_241 (K_L_led (Mr := Mr) hl0 he hw) ⟨rfl, rfl⟩ ⟨Nat.le_of_ble_eq_true rfl, Nat.le_of_ble_eq_true rfl⟩ hcs1 rfl rfl (Nat.le_of_ble_eq_true rfl) dL_law__2174 ?_
    refine z_istore (lv' := [(0, .ref b), (1, .ref (X.2.2 1)), (2, .ref (X.2.2 109)), (3, .ref (X.2.2 108)), (4, .int i), (5, .int (gI Nr 109 0))]) S [1, 2, 3, 4, 5, 0] dL_law__2177 (by decide) rfl ?_
    refine z_aload_n S dL_law__2179 rfl 2 rfl ?_
    refine z_aload_n S dL_law__2180 rfl 0 rfl ?_
    refine z_iload S dL_law__2181 4 rfl ?_
    refine z_iconst (v := 1) S dL_law__2183 (by decide) ?_
    refine z_iadd S dL_law__2184 ?_
    refine z_sld S hX hbl hbA hin1 dL_law__2185 ?_
    refine z_aload_n S dL_law__2186 rfl 0 rfl ?_
    refine z_iload S dL_law__2187 4 rfl ?_
    refine z_iconst (v := 2) S dL_law__2189 (by decide) ?_
    refine z_iadd S dL_law__2190 ?_
    refine z_sld S hX hbl hbA hin2 dL_law__2191 ?_
    refine z_if_eq (tgt := 2199) (A := true) (B := false) (x0 := false) S (if_neg hx2) dL_law__2192 (by decide) (fun he => nomatch he) (fun _ => ?_)
    refine z_iconst (v := 1) S dL_law__2195 (by decide) ?_
    refine z_goto (tgt := 2200) S dL_law__2196 (by decide) ?_
    refine z_wVI (v := 1) (As := [.int (xs (i + 1).toNatClampNeg), .int 1]) (rest := []) S ⟨by decide, by decide⟩ agr3r mix3r cv_RL_243 (K_X10_led hm) ok3_109 (by decide) (q := (RX10, TX10, 28)) rfl rfl ⟨rfl, rfl⟩ ⟨Nat.le_of_ble_eq_true rfl, Nat.le_of_ble_eq_true rfl⟩ hcs1 rfl rfl (Nat.le_of_ble_eq_true rfl) dL_law__2200 ?_
    refine z_istore (lv' := [(0, .ref b), (1, .ref (X.2.2 1)), (2, .ref (X.2.2 109)), (3, .ref (X.2.2 108)), (4, .int i), (5, .int (gI Nr 109 0)), (6, .int v)]) S [1, 2, 3, 4, 5, 6, 0] dL_law__2203 (by decide) rfl ?_
    refine z_aload_n S dL_law__2205 rfl 2 rfl ?_
    refine z_wVI (v := 1) (As := []) (rest := []) S ⟨by decide, by decide⟩ agr3r mix3r cv_RL_127 (K_X10_thrown (M := Nr) rfl) ok3_109 (by decide) (q := (RX10, TX10, 28)) rfl rfl ⟨rfl, rfl⟩ ⟨Nat.le_of_ble_eq_true rfl, Nat.le_of_ble_eq_true rfl⟩ hcs1 rfl rfl (Nat.le_of_ble_eq_true rfl) dL_law__2206 ?_
    refine z_iload S dL_law__2209 5 rfl ?_
    refine z_icmp_eq (tgt := 2216) (A := true) (B := false) (x0 := true) S (if_pos rfl) dL_law__2211 (by decide) (fun _ => ?_) (fun he => nomatch he)
    refine z_iload S dL_law__2216 5 rfl ?_
    have hfin : Z X 3 p l e room_1 s m args below meth c (cells + 3) (slots + 18) Q 7 (mk3 Nc Nr g2) 2233 [(0, .ref b), (1, .ref (X.2.2 1)), (2, .ref (X.2.2 109)), (3, .ref (X.2.2 108)), (4, .int i), (5, .int (gI Nr 109 0)), (6, .int v)] [] := by
      refine z_goto (tgt := 2391) S dL_law__2233 (by decide) ?_
      refine z_lv (ks := [0, 1, 2, 3, 4]) rfl ?_
      exact kk g2
    by_cases ht : gI Nr 109 0 = 0
    · refine z_if_ne (tgt := 2233) (A := true) (B := false) (x0 := true) S (if_pos ht) dL_law__2218 (by decide) (fun he => nomatch he) (fun _ => ?_)
      refine z_aload_n S dL_law__2221 rfl 3 rfl ?_
      refine z_iconst (v := 0) S dL_law__2222 (by decide) ?_
      refine z_lald (i := 108) (N := 1) (A := some ()) (x0 := ()) S ok3_108 (by decide +kernel) (by decide) dL_law__2223 (fun _ => ?_)
      refine z_iload S dL_law__2224 6 rfl ?_
      refine z_i2l S dL_law__2226 ?_
      refine z_lcmp S dL_law__2227 ?_
      refine z_if_eq (tgt := 2233) (A := true) (B := false) (x0 := true) S (if_pos (lgc_eq (hg2 ht))) dL_law__2228 (by decide) (fun _ => ?_) (fun he => nomatch he)
      exact hfin
    · refine z_if_ne (tgt := 2233) (A := true) (B := false) (x0 := false) S (if_neg ht) dL_law__2218 (by decide) (fun _ => ?_) (fun he => nomatch he)
      exact hfin
set_option maxRecDepth 100000 in
set_option maxHeartbeats 4000000 in
theorem LC_36 {X : Cx} {p : Program} {l : Launch} {e : Env} {s : State} {m : MethodId} {args : Array Value} {below : List Frame} {meth : Method} {c : Code} {cells slots : Nat} {Q : State → Prop} {b L : Nat} {xs : Nat → Int32} (hl0 : l.stackTraces = false) (S : SB X 3 p s m args meth c cL_law_ 7 ret RL) (hNC : NCF s) (hX : va_X b L xs s s.heap) (hbl : b < s.heap.size) (hbA : ¬ AA X 3 s.heap.size b) {i : Int32} (hin1 : ibs (i + 1) L = true) (hin2 : ibs (i + 2) L = true) (hin3 : ibs (i + 3) L = true) (hin4 : ibs (i + 4) L = true) (hin5 : ibs (i + 5) L = true) (hcs0 : cells ≤ room_1.cells ∧ slots ≤ room_1.slots) (hcs1 : cells + 3 ≤ room_1.cells ∧ slots + 18 ≤ room_1.slots) {Mc Mr Nc Nr : Mm} {g : Nat → Int64} (hs : so_36 (xs (i + 1).toNatClampNeg) (xs (i + 2).toNatClampNeg) (xs (i + 3).toNatClampNeg) (xs (i + 4).toNatClampNeg) (xs (i + 5).toNatClampNeg) Mc Mr Nc Nr) (kk : ∀ g2, Z X 3 p l e room_1 s m args below meth c (cells + 3) (slots + 18) Q 7 (mk3 Nc Nr g2) 2391 [(0, .ref b), (1, .ref (X.2.2 1)), (2, .ref (X.2.2 109)), (3, .ref (X.2.2 108)), (4, .int i)] []) : Z X 3 p l e room_1 s m args below meth c cells slots Q 7 (mk3 Mc Mr g) 2236 [(0, .ref b), (1, .ref (X.2.2 1)), (2, .ref (X.2.2 109)), (3, .ref (X.2.2 108)), (4, .int i)] [] := by
  obtain ⟨rx, v, he, hm, hok⟩ := hs
  skip
  refine z_aload_n S dL_law__2236 rfl 1 rfl ?_
  refine z_aload_n S dL_law__2237 rfl 0 rfl ?_
  refine z_iload S dL_law__2238 4 rfl ?_
  refine z_iconst (v := 1) S dL_law__2240 (by decide) ?_
  refine z_iadd S dL_law__2241 ?_
  refine z_sld S hX hbl hbA hin1 dL_law__2242 ?_
  refine z_aload_n S dL_law__2243 rfl 0 rfl ?_
  refine z_iload S dL_law__2244 4 rfl ?_
  refine z_iconst (v := 2) S dL_law__2246 (by decide) ?_
  refine z_iadd S dL_law__2247 ?_
  refine z_sld S hX hbl hbA hin2 dL_law__2248 ?_
  refine z_aload_n S dL_law__2249 rfl 3 rfl ?_
  obtain ⟨g2, hw, hg2⟩ := okI_wr g hok
  refine z_cW (As := [.ref (X.2.2 1), .int (xs (i + 1).toNatClampNeg), .int (xs (i + 2).toNatClampNeg), .ref (X.2.2 108)]) (rest := []) S hNC cw_RL_244 (K_L_log (Mr := Mr) hl0 he hw) ⟨rfl, rfl⟩ ⟨Nat.le_of_ble_eq_true rfl, Nat.le_of_ble_eq_true rfl⟩ hcs1 rfl rfl (Nat.le_of_ble_eq_true rfl) dL_law__2250 ?_
  refine z_istore (lv' := [(0, .ref b), (1, .ref (X.2.2 1)), (2, .ref (X.2.2 109)), (3, .ref (X.2.2 108)), (4, .int i), (5, .int (gI Nr 109 0))]) S [1, 2, 3, 4, 5, 0] dL_law__2253 (by decide) rfl ?_
  refine z_aload_n S dL_law__2255 rfl 2 rfl ?_
  refine z_aload_n S dL_law__2256 rfl 0 rfl ?_
  refine z_iload S dL_law__2257 4 rfl ?_
  refine z_iconst (v := 1) S dL_law__2259 (by decide) ?_
  refine z_iadd S dL_law__2260 ?_
  refine z_sld S hX hbl hbA hin1 dL_law__2261 ?_
  refine z_aload_n S dL_law__2262 rfl 0 rfl ?_
  refine z_iload S dL_law__2263 4 rfl ?_
  refine z_iconst (v := 2) S dL_law__2265 (by decide) ?_
  refine z_iadd S dL_law__2266 ?_
  refine z_sld S hX hbl hbA hin2 dL_law__2267 ?_
  refine z_wVI (v := 1) (As := [.int (xs (i + 1).toNatClampNeg), .int (xs (i + 2).toNatClampNeg)]) (rest := []) S ⟨by decide, by decide⟩ agr3r mix3r cv_RL_246 (K_X10_log hm) ok3_109 (by decide) (q := (RX10, TX10, 28)) rfl rfl ⟨rfl, rfl⟩ ⟨Nat.le_of_ble_eq_true rfl, Nat.le_of_ble_eq_true rfl⟩ hcs1 rfl rfl (Nat.le_of_ble_eq_true rfl) dL_law__2268 ?_
  refine z_istore (lv' := [(0, .ref b), (1, .ref (X.2.2 1)), (2, .ref (X.2.2 109)), (3, .ref (X.2.2 108)), (4, .int i), (5, .int (gI Nr 109 0)), (6, .int v)]) S [1, 2, 3, 4, 5, 6, 0] dL_law__2271 (by decide) rfl ?_
  refine z_aload_n S dL_law__2273 rfl 2 rfl ?_
  refine z_wVI (v := 1) (As := []) (rest := []) S ⟨by decide, by decide⟩ agr3r mix3r cv_RL_127 (K_X10_thrown (M := Nr) rfl) ok3_109 (by decide) (q := (RX10, TX10, 28)) rfl rfl ⟨rfl, rfl⟩ ⟨Nat.le_of_ble_eq_true rfl, Nat.le_of_ble_eq_true rfl⟩ hcs1 rfl rfl (Nat.le_of_ble_eq_true rfl) dL_law__2274 ?_
  refine z_iload S dL_law__2277 5 rfl ?_
  refine z_icmp_eq (tgt := 2284) (A := true) (B := false) (x0 := true) S (if_pos rfl) dL_law__2279 (by decide) (fun _ => ?_) (fun he => nomatch he)
  refine z_iload S dL_law__2284 5 rfl ?_
  have hfin : Z X 3 p l e room_1 s m args below meth c (cells + 3) (slots + 18) Q 7 (mk3 Nc Nr g2) 2301 [(0, .ref b), (1, .ref (X.2.2 1)), (2, .ref (X.2.2 109)), (3, .ref (X.2.2 108)), (4, .int i), (5, .int (gI Nr 109 0)), (6, .int v)] [] := by
    refine z_goto (tgt := 2391) S dL_law__2301 (by decide) ?_
    refine z_lv (ks := [0, 1, 2, 3, 4]) rfl ?_
    exact kk g2
  by_cases ht : gI Nr 109 0 = 0
  · refine z_if_ne (tgt := 2301) (A := true) (B := false) (x0 := true) S (if_pos ht) dL_law__2286 (by decide) (fun he => nomatch he) (fun _ => ?_)
    refine z_aload_n S dL_law__2289 rfl 3 rfl ?_
    refine z_iconst (v := 0) S dL_law__2290 (by decide) ?_
    refine z_lald (i := 108) (N := 1) (A := some ()) (x0 := ()) S ok3_108 (by decide +kernel) (by decide) dL_law__2291 (fun _ => ?_)
    refine z_iload S dL_law__2292 6 rfl ?_
    refine z_i2l S dL_law__2294 ?_
    refine z_lcmp S dL_law__2295 ?_
    refine z_if_eq (tgt := 2301) (A := true) (B := false) (x0 := true) S (if_pos (lgc_eq (hg2 ht))) dL_law__2296 (by decide) (fun _ => ?_) (fun he => nomatch he)
    exact hfin
  · refine z_if_ne (tgt := 2301) (A := true) (B := false) (x0 := false) S (if_neg ht) dL_law__2286 (by decide) (fun _ => ?_) (fun he => nomatch he)
    exact hfin
set_option maxRecDepth 100000 in
set_option maxHeartbeats 4000000 in
theorem LC_37 {X : Cx} {p : Program} {l : Launch} {e : Env} {s : State} {m : MethodId} {args : Array Value} {below : List Frame} {meth : Method} {c : Code} {cells slots : Nat} {Q : State → Prop} {b L : Nat} {xs : Nat → Int32} (hl0 : l.stackTraces = false) (S : SB X 3 p s m args meth c cL_law_ 7 ret RL) (hNC : NCF s) (hX : va_X b L xs s s.heap) (hbl : b < s.heap.size) (hbA : ¬ AA X 3 s.heap.size b) {i : Int32} (hin1 : ibs (i + 1) L = true) (hin2 : ibs (i + 2) L = true) (hin3 : ibs (i + 3) L = true) (hin4 : ibs (i + 4) L = true) (hin5 : ibs (i + 5) L = true) (hcs0 : cells ≤ room_1.cells ∧ slots ≤ room_1.slots) (hcs1 : cells + 3 ≤ room_1.cells ∧ slots + 18 ≤ room_1.slots) {Mc Mr Nc Nr : Mm} {g : Nat → Int64} (hs : so_37 (xs (i + 1).toNatClampNeg) (xs (i + 2).toNatClampNeg) (xs (i + 3).toNatClampNeg) (xs (i + 4).toNatClampNeg) (xs (i + 5).toNatClampNeg) Mc Mr Nc Nr) (kk : ∀ g2, Z X 3 p l e room_1 s m args below meth c (cells + 3) (slots + 18) Q 7 (mk3 Nc Nr g2) 2391 [(0, .ref b), (1, .ref (X.2.2 1)), (2, .ref (X.2.2 109)), (3, .ref (X.2.2 108)), (4, .int i)] []) : Z X 3 p l e room_1 s m args below meth c cells slots Q 7 (mk3 Mc Mr g) 2304 [(0, .ref b), (1, .ref (X.2.2 1)), (2, .ref (X.2.2 109)), (3, .ref (X.2.2 108)), (4, .int i)] [] := by
  obtain ⟨v, he, hm⟩ := hs
  skip
  refine z_aload_n S dL_law__2304 rfl 1 rfl ?_
  refine z_aload_n S dL_law__2305 rfl 0 rfl ?_
  refine z_iload S dL_law__2306 4 rfl ?_
  refine z_iconst (v := 1) S dL_law__2308 (by decide) ?_
  refine z_iadd S dL_law__2309 ?_
  refine z_sld S hX hbl hbA hin1 dL_law__2310 ?_
  refine z_wVI (v := 0) (As := [.int (xs (i + 1).toNatClampNeg)]) (rest := []) S ⟨by decide, by decide⟩ agr3c mix3c cv_RL_247 (K_X9_seed he) ok3_1 (by decide) (q := (RX9, TX9, 17)) rfl rfl ⟨rfl, rfl⟩ ⟨Nat.le_of_ble_eq_true rfl, Nat.le_of_ble_eq_true rfl⟩ hcs0 rfl rfl (Nat.le_of_ble_eq_true rfl) dL_law__2311 ?_
  refine z_aload_n S dL_law__2314 rfl 2 rfl ?_
  refine z_aload_n S dL_law__2315 rfl 0 rfl ?_
  refine z_iload S dL_law__2316 4 rfl ?_
  refine z_iconst (v := 1) S dL_law__2318 (by decide) ?_
  refine z_iadd S dL_law__2319 ?_
  refine z_sld S hX hbl hbA hin1 dL_law__2320 ?_
  refine z_wVI (v := 1) (As := [.int (xs (i + 1).toNatClampNeg)]) (rest := [.int v]) S ⟨by decide, by decide⟩ agr3r mix3r cv_RL_250 (K_X10_seed hm) ok3_109 (by decide) (q := (RX10, TX10, 28)) rfl rfl ⟨rfl, rfl⟩ ⟨Nat.le_of_ble_eq_true rfl, Nat.le_of_ble_eq_true rfl⟩ hcs0 rfl rfl (Nat.le_of_ble_eq_true rfl) dL_law__2321 ?_
  refine z_icmp_eq (tgt := 2391) (A := true) (B := false) (x0 := true) S (if_pos rfl) dL_law__2324 (by decide) (fun _ => ?_) (fun he => nomatch he)
  refine z_widen (k := cells + 3) (j := slots + 18) (by omega) (by omega) ?_
  exact kk g
set_option maxRecDepth 100000 in
set_option maxHeartbeats 4000000 in
theorem LC_38 {X : Cx} {p : Program} {l : Launch} {e : Env} {s : State} {m : MethodId} {args : Array Value} {below : List Frame} {meth : Method} {c : Code} {cells slots : Nat} {Q : State → Prop} {b L : Nat} {xs : Nat → Int32} (hl0 : l.stackTraces = false) (S : SB X 3 p s m args meth c cL_law_ 7 ret RL) (hNC : NCF s) (hX : va_X b L xs s s.heap) (hbl : b < s.heap.size) (hbA : ¬ AA X 3 s.heap.size b) {i : Int32} (hin1 : ibs (i + 1) L = true) (hin2 : ibs (i + 2) L = true) (hin3 : ibs (i + 3) L = true) (hin4 : ibs (i + 4) L = true) (hin5 : ibs (i + 5) L = true) (hcs0 : cells ≤ room_1.cells ∧ slots ≤ room_1.slots) (hcs1 : cells + 3 ≤ room_1.cells ∧ slots + 18 ≤ room_1.slots) {Mc Mr Nc Nr : Mm} {g : Nat → Int64} (hs : so_38 (xs (i + 1).toNatClampNeg) (xs (i + 2).toNatClampNeg) (xs (i + 3).toNatClampNeg) (xs (i + 4).toNatClampNeg) (xs (i + 5).toNatClampNeg) Mc Mr Nc Nr) (kk : ∀ g2, Z X 3 p l e room_1 s m args below meth c (cells + 3) (slots + 18) Q 7 (mk3 Nc Nr g2) 2391 [(0, .ref b), (1, .ref (X.2.2 1)), (2, .ref (X.2.2 109)), (3, .ref (X.2.2 108)), (4, .int i)] []) : Z X 3 p l e room_1 s m args below meth c cells slots Q 7 (mk3 Mc Mr g) 2329 [(0, .ref b), (1, .ref (X.2.2 1)), (2, .ref (X.2.2 109)), (3, .ref (X.2.2 108)), (4, .int i)] [] := by
  obtain ⟨v, he, hm⟩ := hs
  skip
  refine z_aload_n S dL_law__2329 rfl 1 rfl ?_
  refine z_wVI (v := 0) (As := []) (rest := []) S ⟨by decide, by decide⟩ agr3c mix3c cv_RL_251 (K_X9_undo he) ok3_1 (by decide) (q := (RX9, TX9, 17)) rfl rfl ⟨rfl, rfl⟩ ⟨Nat.le_of_ble_eq_true rfl, Nat.le_of_ble_eq_true rfl⟩ hcs0 rfl rfl (Nat.le_of_ble_eq_true rfl) dL_law__2330 ?_
  refine z_aload_n S dL_law__2333 rfl 2 rfl ?_
  refine z_wVI (v := 1) (As := []) (rest := [.int (bI v)]) S ⟨by decide, by decide⟩ agr3r mix3r cv_RL_255 (K_X10_undo hm) ok3_109 (by decide) (q := (RX10, TX10, 28)) rfl rfl ⟨rfl, rfl⟩ ⟨Nat.le_of_ble_eq_true rfl, Nat.le_of_ble_eq_true rfl⟩ hcs0 rfl rfl (Nat.le_of_ble_eq_true rfl) dL_law__2334 ?_
  refine z_icmp_eq (tgt := 2391) (A := true) (B := false) (x0 := true) S (if_pos rfl) dL_law__2337 (by decide) (fun _ => ?_) (fun he => nomatch he)
  refine z_widen (k := cells + 3) (j := slots + 18) (by omega) (by omega) ?_
  exact kk g
set_option maxRecDepth 100000 in
set_option maxHeartbeats 4000000 in
theorem LC_39 {X : Cx} {p : Program} {l : Launch} {e : Env} {s : State} {m : MethodId} {args : Array Value} {below : List Frame} {meth : Method} {c : Code} {cells slots : Nat} {Q : State → Prop} {b L : Nat} {xs : Nat → Int32} (hl0 : l.stackTraces = false) (S : SB X 3 p s m args meth c cL_law_ 7 ret RL) (hNC : NCF s) (hX : va_X b L xs s s.heap) (hbl : b < s.heap.size) (hbA : ¬ AA X 3 s.heap.size b) {i : Int32} (hin1 : ibs (i + 1) L = true) (hin2 : ibs (i + 2) L = true) (hin3 : ibs (i + 3) L = true) (hin4 : ibs (i + 4) L = true) (hin5 : ibs (i + 5) L = true) (hcs0 : cells ≤ room_1.cells ∧ slots ≤ room_1.slots) (hcs1 : cells + 3 ≤ room_1.cells ∧ slots + 18 ≤ room_1.slots) {Mc Mr Nc Nr : Mm} {g : Nat → Int64} (hs : so_39 (xs (i + 1).toNatClampNeg) (xs (i + 2).toNatClampNeg) (xs (i + 3).toNatClampNeg) (xs (i + 4).toNatClampNeg) (xs (i + 5).toNatClampNeg) Mc Mr Nc Nr) (kk : ∀ g2, Z X 3 p l e room_1 s m args below meth c (cells + 3) (slots + 18) Q 7 (mk3 Nc Nr g2) 2391 [(0, .ref b), (1, .ref (X.2.2 1)), (2, .ref (X.2.2 109)), (3, .ref (X.2.2 108)), (4, .int i)] []) : Z X 3 p l e room_1 s m args below meth c cells slots Q 7 (mk3 Mc Mr g) 2342 [(0, .ref b), (1, .ref (X.2.2 1)), (2, .ref (X.2.2 109)), (3, .ref (X.2.2 108)), (4, .int i)] [] := by
  obtain ⟨he, hm⟩ := hs
  skip
  refine z_aload_n S dL_law__2342 rfl 1 rfl ?_
  refine z_wVV (v := 0) (As := []) (rest := []) S ⟨by decide, by decide⟩ agr3c mix3c cv_RL_256 (K_X9_image he) ok3_1 (by decide) (q := (RX9, TX9, 17)) rfl rfl ⟨rfl, rfl⟩ ⟨Nat.le_of_ble_eq_true rfl, Nat.le_of_ble_eq_true rfl⟩ hcs0 rfl rfl (Nat.le_of_ble_eq_true rfl) dL_law__2343 ?_
  refine z_aload_n S dL_law__2346 rfl 2 rfl ?_
  refine z_wVV (v := 1) (As := []) (rest := []) S ⟨by decide, by decide⟩ agr3r mix3r cv_RL_259 (K_X10_image hm) ok3_109 (by decide) (q := (RX10, TX10, 28)) rfl rfl ⟨rfl, rfl⟩ ⟨Nat.le_of_ble_eq_true rfl, Nat.le_of_ble_eq_true rfl⟩ hcs0 rfl rfl (Nat.le_of_ble_eq_true rfl) dL_law__2347 ?_
  refine z_goto (tgt := 2391) S dL_law__2350 (by decide) ?_
  refine z_widen (k := cells + 3) (j := slots + 18) (by omega) (by omega) ?_
  exact kk g
set_option maxRecDepth 100000 in
set_option maxHeartbeats 4000000 in
theorem LC_40 {X : Cx} {p : Program} {l : Launch} {e : Env} {s : State} {m : MethodId} {args : Array Value} {below : List Frame} {meth : Method} {c : Code} {cells slots : Nat} {Q : State → Prop} {b L : Nat} {xs : Nat → Int32} (hl0 : l.stackTraces = false) (S : SB X 3 p s m args meth c cL_law_ 7 ret RL) (hNC : NCF s) (hX : va_X b L xs s s.heap) (hbl : b < s.heap.size) (hbA : ¬ AA X 3 s.heap.size b) {i : Int32} (hin1 : ibs (i + 1) L = true) (hin2 : ibs (i + 2) L = true) (hin3 : ibs (i + 3) L = true) (hin4 : ibs (i + 4) L = true) (hin5 : ibs (i + 5) L = true) (hcs0 : cells ≤ room_1.cells ∧ slots ≤ room_1.slots) (hcs1 : cells + 3 ≤ room_1.cells ∧ slots + 18 ≤ room_1.slots) {Mc Mr Nc Nr : Mm} {g : Nat → Int64} (hs : so_40 (xs (i + 1).toNatClampNeg) (xs (i + 2).toNatClampNeg) (xs (i + 3).toNatClampNeg) (xs (i + 4).toNatClampNeg) (xs (i + 5).toNatClampNeg) Mc Mr Nc Nr) (kk : ∀ g2, Z X 3 p l e room_1 s m args below meth c (cells + 3) (slots + 18) Q 7 (mk3 Nc Nr g2) 2391 [(0, .ref b), (1, .ref (X.2.2 1)), (2, .ref (X.2.2 109)), (3, .ref (X.2.2 108)), (4, .int i)] []) : Z X 3 p l e room_1 s m args below meth c cells slots Q 7 (mk3 Mc Mr g) 2353 [(0, .ref b), (1, .ref (X.2.2 1)), (2, .ref (X.2.2 109)), (3, .ref (X.2.2 108)), (4, .int i)] [] := by
  obtain ⟨v, he, hm⟩ := hs
  skip
  refine z_aload_n S dL_law__2353 rfl 1 rfl ?_
  refine z_wVI (v := 0) (As := []) (rest := []) S ⟨by decide, by decide⟩ agr3c mix3c cv_RL_260 (K_X9_back he) ok3_1 (by decide) (q := (RX9, TX9, 17)) rfl rfl ⟨rfl, rfl⟩ ⟨Nat.le_of_ble_eq_true rfl, Nat.le_of_ble_eq_true rfl⟩ hcs0 rfl rfl (Nat.le_of_ble_eq_true rfl) dL_law__2354 ?_
  refine z_aload_n S dL_law__2357 rfl 2 rfl ?_
  refine z_wVI (v := 1) (As := []) (rest := [.int (bI v)]) S ⟨by decide, by decide⟩ agr3r mix3r cv_RL_263 (K_X10_back hm) ok3_109 (by decide) (q := (RX10, TX10, 28)) rfl rfl ⟨rfl, rfl⟩ ⟨Nat.le_of_ble_eq_true rfl, Nat.le_of_ble_eq_true rfl⟩ hcs0 rfl rfl (Nat.le_of_ble_eq_true rfl) dL_law__2358 ?_
  refine z_icmp_eq (tgt := 2391) (A := true) (B := false) (x0 := true) S (if_pos rfl) dL_law__2361 (by decide) (fun _ => ?_) (fun he => nomatch he)
  refine z_widen (k := cells + 3) (j := slots + 18) (by omega) (by omega) ?_
  exact kk g
set_option maxRecDepth 100000 in
set_option maxHeartbeats 4000000 in
theorem LC_41 {X : Cx} {p : Program} {l : Launch} {e : Env} {s : State} {m : MethodId} {args : Array Value} {below : List Frame} {meth : Method} {c : Code} {cells slots : Nat} {Q : State → Prop} {b L : Nat} {xs : Nat → Int32} (hl0 : l.stackTraces = false) (S : SB X 3 p s m args meth c cL_law_ 7 ret RL) (hNC : NCF s) (hX : va_X b L xs s s.heap) (hbl : b < s.heap.size) (hbA : ¬ AA X 3 s.heap.size b) {i : Int32} (hin1 : ibs (i + 1) L = true) (hin2 : ibs (i + 2) L = true) (hin3 : ibs (i + 3) L = true) (hin4 : ibs (i + 4) L = true) (hin5 : ibs (i + 5) L = true) (hcs0 : cells ≤ room_1.cells ∧ slots ≤ room_1.slots) (hcs1 : cells + 3 ≤ room_1.cells ∧ slots + 18 ≤ room_1.slots) {Mc Mr Nc Nr : Mm} {g : Nat → Int64} (hs : so_41 (xs (i + 1).toNatClampNeg) (xs (i + 2).toNatClampNeg) (xs (i + 3).toNatClampNeg) (xs (i + 4).toNatClampNeg) (xs (i + 5).toNatClampNeg) Mc Mr Nc Nr) (kk : ∀ g2, Z X 3 p l e room_1 s m args below meth c (cells + 3) (slots + 18) Q 7 (mk3 Nc Nr g2) 2391 [(0, .ref b), (1, .ref (X.2.2 1)), (2, .ref (X.2.2 109)), (3, .ref (X.2.2 108)), (4, .int i)] []) : Z X 3 p l e room_1 s m args below meth c cells slots Q 7 (mk3 Mc Mr g) 2366 [(0, .ref b), (1, .ref (X.2.2 1)), (2, .ref (X.2.2 109)), (3, .ref (X.2.2 108)), (4, .int i)] [] := by
  obtain ⟨v, ⟨he, rfl⟩, hm⟩ := hs
  skip
  refine z_aload_n S dL_law__2366 rfl 1 rfl ?_
  refine z_aload_n S dL_law__2367 rfl 0 rfl ?_
  refine z_iload S dL_law__2368 4 rfl ?_
  refine z_iconst (v := 1) S dL_law__2370 (by decide) ?_
  refine z_iadd S dL_law__2371 ?_
  refine z_sld S hX hbl hbA hin1 dL_law__2372 ?_
  refine z_wVI (v := 0) (As := [.int (xs (i + 1).toNatClampNeg)]) (rest := []) S ⟨by decide, by decide⟩ agr3c mix3c cv_RL_264 (K_X9_count he) ok3_1 (by decide) (q := (RX9, TX9, 17)) rfl rfl ⟨rfl, rfl⟩ ⟨Nat.le_of_ble_eq_true rfl, Nat.le_of_ble_eq_true rfl⟩ hcs0 rfl rfl (Nat.le_of_ble_eq_true rfl) dL_law__2373 ?_
  refine z_aload_n S dL_law__2376 rfl 2 rfl ?_
  refine z_aload_n S dL_law__2377 rfl 0 rfl ?_
  refine z_iload S dL_law__2378 4 rfl ?_
  refine z_iconst (v := 1) S dL_law__2380 (by decide) ?_
  refine z_iadd S dL_law__2381 ?_
  refine z_sld S hX hbl hbA hin1 dL_law__2382 ?_
  refine z_wVI (v := 1) (As := [.int (xs (i + 1).toNatClampNeg)]) (rest := [.int v]) S ⟨by decide, by decide⟩ agr3r mix3r cv_RL_267 (K_X10_count hm) ok3_109 (by decide) (q := (RX10, TX10, 28)) rfl rfl ⟨rfl, rfl⟩ ⟨Nat.le_of_ble_eq_true rfl, Nat.le_of_ble_eq_true rfl⟩ hcs0 rfl rfl (Nat.le_of_ble_eq_true rfl) dL_law__2383 ?_
  refine z_icmp_eq (tgt := 2391) (A := true) (B := false) (x0 := true) S (if_pos rfl) dL_law__2386 (by decide) (fun _ => ?_) (fun he => nomatch he)
  refine z_widen (k := cells + 3) (j := slots + 18) (by omega) (by omega) ?_
  exact kk g
