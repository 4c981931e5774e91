set_option maxRecDepth 100000 in
set_option maxHeartbeats 4000000 in
theorem LC_0 {X : Cx} {p : Program} {l : Launch} {e : Env} {s : State} {m : MethodId} {args : Array Value} {below : List Frame} {meth : Method} {c : Code} {cells slots : Nat} {Q : State → Prop} {b L : Nat} {xs : Nat → Int32} (hl0 : l.stackTraces = false) (S : SB X 3 p s m args meth c cL_law_ 7 ret RL) (hNC : NCF s) (hX : va_X b L xs s s.heap) (hbl : b < s.heap.size) (hbA : ¬ AA X 3 s.heap.size b) {i : Int32} (hin1 : ibs (i + 1) L = true) (hin2 : ibs (i + 2) L = true) (hin3 : ibs (i + 3) L = true) (hin4 : ibs (i + 4) L = true) (hin5 : ibs (i + 5) L = true) (hcs0 : cells ≤ room_1.cells ∧ slots ≤ room_1.slots) (hcs1 : cells + 3 ≤ room_1.cells ∧ slots + 18 ≤ room_1.slots) {Mc Mr Nc Nr : Mm} {g : Nat → Int64} (hs : so_0 (xs (i + 1).toNatClampNeg) (xs (i + 2).toNatClampNeg) (xs (i + 3).toNatClampNeg) (xs (i + 4).toNatClampNeg) (xs (i + 5).toNatClampNeg) Mc Mr Nc Nr) (kk : ∀ g2, Z X 3 p l e room_1 s m args below meth c (cells + 3) (slots + 18) Q 7 (mk3 Nc Nr g2) 2391 [(0, .ref b), (1, .ref (X.2.2 1)), (2, .ref (X.2.2 109)), (3, .ref (X.2.2 108)), (4, .int i)] []) : Z X 3 p l e room_1 s m args below meth c cells slots Q 7 (mk3 Mc Mr g) 224 [(0, .ref b), (1, .ref (X.2.2 1)), (2, .ref (X.2.2 109)), (3, .ref (X.2.2 108)), (4, .int i)] [] := by
  obtain ⟨v, he, hm⟩ := hs
  skip
  refine z_aload_n S dL_law__224 rfl 1 rfl ?_
  refine z_aload_n S dL_law__225 rfl 0 rfl ?_
  refine z_iload S dL_law__226 4 rfl ?_
  refine z_iconst (v := 1) S dL_law__228 (by decide) ?_
  refine z_iadd S dL_law__229 ?_
  refine z_sld S hX hbl hbA hin1 dL_law__230 ?_
  refine z_aload_n S dL_law__231 rfl 0 rfl ?_
  refine z_iload S dL_law__232 4 rfl ?_
  refine z_iconst (v := 2) S dL_law__234 (by decide) ?_
  refine z_iadd S dL_law__235 ?_
  refine z_sld S hX hbl hbA hin2 dL_law__236 ?_
  refine z_aload_n S dL_law__237 rfl 0 rfl ?_
  refine z_iload S dL_law__238 4 rfl ?_
  refine z_iconst (v := 3) S dL_law__240 (by decide) ?_
  refine z_iadd S dL_law__241 ?_
  refine z_sld S hX hbl hbA hin3 dL_law__242 ?_
  refine z_aload_n S dL_law__243 rfl 0 rfl ?_
  refine z_iload S dL_law__244 4 rfl ?_
  refine z_iconst (v := 4) S dL_law__246 (by decide) ?_
  refine z_iadd S dL_law__247 ?_
  refine z_sld S hX hbl hbA hin4 dL_law__248 ?_
  refine z_aload_n S dL_law__249 rfl 0 rfl ?_
  refine z_iload S dL_law__250 4 rfl ?_
  refine z_iconst (v := 5) S dL_law__252 (by decide) ?_
  refine z_iadd S dL_law__253 ?_
  refine z_sld S hX hbl hbA hin5 dL_law__254 ?_
  refine z_wVI (v := 0) (As := [.int (xs (i + 1).toNatClampNeg), .int (xs (i + 2).toNatClampNeg), .int (xs (i + 3).toNatClampNeg), .int (xs (i + 4).toNatClampNeg), .int (xs (i + 5).toNatClampNeg)]) (rest := []) S ⟨by decide, by decide⟩ agr3c mix3c cv_RL_111 (K_X9_feed he) ok3_1 (by decide) (q := (RX9, TX9, 17)) rfl rfl ⟨rfl, rfl⟩ ⟨Nat.le_of_ble_eq_true rfl, Nat.le_of_ble_eq_true rfl⟩ hcs0 rfl rfl (Nat.le_of_ble_eq_true rfl) dL_law__255 ?_
  refine z_aload_n S dL_law__258 rfl 2 rfl ?_
  refine z_aload_n S dL_law__259 rfl 0 rfl ?_
  refine z_iload S dL_law__260 4 rfl ?_
  refine z_iconst (v := 1) S dL_law__262 (by decide) ?_
  refine z_iadd S dL_law__263 ?_
  refine z_sld S hX hbl hbA hin1 dL_law__264 ?_
  refine z_aload_n S dL_law__265 rfl 0 rfl ?_
  refine z_iload S dL_law__266 4 rfl ?_
  refine z_iconst (v := 2) S dL_law__268 (by decide) ?_
  refine z_iadd S dL_law__269 ?_
  refine z_sld S hX hbl hbA hin2 dL_law__270 ?_
  refine z_aload_n S dL_law__271 rfl 0 rfl ?_
  refine z_iload S dL_law__272 4 rfl ?_
  refine z_iconst (v := 3) S dL_law__274 (by decide) ?_
  refine z_iadd S dL_law__275 ?_
  refine z_sld S hX hbl hbA hin3 dL_law__276 ?_
  refine z_aload_n S dL_law__277 rfl 0 rfl ?_
  refine z_iload S dL_law__278 4 rfl ?_
  refine z_iconst (v := 4) S dL_law__280 (by decide) ?_
  refine z_iadd S dL_law__281 ?_
  refine z_sld S hX hbl hbA hin4 dL_law__282 ?_
  refine z_aload_n S dL_law__283 rfl 0 rfl ?_
  refine z_iload S dL_law__284 4 rfl ?_
  refine z_iconst (v := 5) S dL_law__286 (by decide) ?_
  refine z_iadd S dL_law__287 ?_
  refine z_sld S hX hbl hbA hin5 dL_law__288 ?_
  refine z_wVI (v := 1) (As := [.int (xs (i + 1).toNatClampNeg), .int (xs (i + 2).toNatClampNeg), .int (xs (i + 3).toNatClampNeg), .int (xs (i + 4).toNatClampNeg), .int (xs (i + 5).toNatClampNeg)]) (rest := [.int v]) S ⟨by decide, by decide⟩ agr3r mix3r cv_RL_115 (K_X10_feed hm) ok3_109 (by decide) (q := (RX10, TX10, 28)) rfl rfl ⟨rfl, rfl⟩ ⟨Nat.le_of_ble_eq_true rfl, Nat.le_of_ble_eq_true rfl⟩ hcs0 rfl rfl (Nat.le_of_ble_eq_true rfl) dL_law__289 ?_
  refine z_icmp_eq (tgt := 2391) (A := true) (B := false) (x0 := true) S (if_pos rfl) dL_law__292 (by decide) (fun _ => ?_) (fun he => nomatch he)
  refine z_widen (k := cells + 3) (j := slots + 18) (by omega) (by omega) ?_
  exact kk g
set_option maxRecDepth 100000 in
set_option maxHeartbeats 4000000 in
theorem LC_1 {X : Cx} {p : Program} {l : Launch} {e : Env} {s : State} {m : MethodId} {args : Array Value} {below : List Frame} {meth : Method} {c : Code} {cells slots : Nat} {Q : State → Prop} {b L : Nat} {xs : Nat → Int32} (hl0 : l.stackTraces = false) (S : SB X 3 p s m args meth c cL_law_ 7 ret RL) (hNC : NCF s) (hX : va_X b L xs s s.heap) (hbl : b < s.heap.size) (hbA : ¬ AA X 3 s.heap.size b) {i : Int32} (hin1 : ibs (i + 1) L = true) (hin2 : ibs (i + 2) L = true) (hin3 : ibs (i + 3) L = true) (hin4 : ibs (i + 4) L = true) (hin5 : ibs (i + 5) L = true) (hcs0 : cells ≤ room_1.cells ∧ slots ≤ room_1.slots) (hcs1 : cells + 3 ≤ room_1.cells ∧ slots + 18 ≤ room_1.slots) {Mc Mr Nc Nr : Mm} {g : Nat → Int64} (hs : so_1 (xs (i + 1).toNatClampNeg) (xs (i + 2).toNatClampNeg) (xs (i + 3).toNatClampNeg) (xs (i + 4).toNatClampNeg) (xs (i + 5).toNatClampNeg) Mc Mr Nc Nr) (kk : ∀ g2, Z X 3 p l e room_1 s m args below meth c (cells + 3) (slots + 18) Q 7 (mk3 Nc Nr g2) 2391 [(0, .ref b), (1, .ref (X.2.2 1)), (2, .ref (X.2.2 109)), (3, .ref (X.2.2 108)), (4, .int i)] []) : Z X 3 p l e room_1 s m args below meth c cells slots Q 7 (mk3 Mc Mr g) 297 [(0, .ref b), (1, .ref (X.2.2 1)), (2, .ref (X.2.2 109)), (3, .ref (X.2.2 108)), (4, .int i)] [] := by
  obtain ⟨v, he, hm⟩ := hs
  skip
  refine z_aload_n S dL_law__297 rfl 1 rfl ?_
  refine z_aload_n S dL_law__298 rfl 0 rfl ?_
  refine z_iload S dL_law__299 4 rfl ?_
  refine z_iconst (v := 1) S dL_law__301 (by decide) ?_
  refine z_iadd S dL_law__302 ?_
  refine z_sld S hX hbl hbA hin1 dL_law__303 ?_
  refine z_wVI (v := 0) (As := [.int (xs (i + 1).toNatClampNeg)]) (rest := []) S ⟨by decide, by decide⟩ agr3c mix3c cv_RL_116 (K_X9_end he) ok3_1 (by decide) (q := (RX9, TX9, 17)) rfl rfl ⟨rfl, rfl⟩ ⟨Nat.le_of_ble_eq_true rfl, Nat.le_of_ble_eq_true rfl⟩ hcs0 rfl rfl (Nat.le_of_ble_eq_true rfl) dL_law__304 ?_
  refine z_aload_n S dL_law__307 rfl 2 rfl ?_
  refine z_aload_n S dL_law__308 rfl 0 rfl ?_
  refine z_iload S dL_law__309 4 rfl ?_
  refine z_iconst (v := 1) S dL_law__311 (by decide) ?_
  refine z_iadd S dL_law__312 ?_
  refine z_sld S hX hbl hbA hin1 dL_law__313 ?_
  refine z_wVI (v := 1) (As := [.int (xs (i + 1).toNatClampNeg)]) (rest := [.int (bI v)]) S ⟨by decide, by decide⟩ agr3r mix3r cv_RL_120 (K_X10_end hm) ok3_109 (by decide) (q := (RX10, TX10, 28)) rfl rfl ⟨rfl, rfl⟩ ⟨Nat.le_of_ble_eq_true rfl, Nat.le_of_ble_eq_true rfl⟩ hcs0 rfl rfl (Nat.le_of_ble_eq_true rfl) dL_law__314 ?_
  refine z_icmp_eq (tgt := 2391) (A := true) (B := false) (x0 := true) S (if_pos rfl) dL_law__317 (by decide) (fun _ => ?_) (fun he => nomatch he)
  refine z_widen (k := cells + 3) (j := slots + 18) (by omega) (by omega) ?_
  exact kk g
set_option maxRecDepth 100000 in
set_option maxHeartbeats 4000000 in
theorem LC_2 {X : Cx} {p : Program} {l : Launch} {e : Env} {s : State} {m : MethodId} {args : Array Value} {below : List Frame} {meth : Method} {c : Code} {cells slots : Nat} {Q : State → Prop} {b L : Nat} {xs : Nat → Int32} (hl0 : l.stackTraces = false) (S : SB X 3 p s m args meth c cL_law_ 7 ret RL) (hNC : NCF s) (hX : va_X b L xs s s.heap) (hbl : b < s.heap.size) (hbA : ¬ AA X 3 s.heap.size b) {i : Int32} (hin1 : ibs (i + 1) L = true) (hin2 : ibs (i + 2) L = true) (hin3 : ibs (i + 3) L = true) (hin4 : ibs (i + 4) L = true) (hin5 : ibs (i + 5) L = true) (hcs0 : cells ≤ room_1.cells ∧ slots ≤ room_1.slots) (hcs1 : cells + 3 ≤ room_1.cells ∧ slots + 18 ≤ room_1.slots) {Mc Mr Nc Nr : Mm} {g : Nat → Int64} (hs : so_2 (xs (i + 1).toNatClampNeg) (xs (i + 2).toNatClampNeg) (xs (i + 3).toNatClampNeg) (xs (i + 4).toNatClampNeg) (xs (i + 5).toNatClampNeg) Mc Mr Nc Nr) (kk : ∀ g2, Z X 3 p l e room_1 s m args below meth c (cells + 3) (slots + 18) Q 7 (mk3 Nc Nr g2) 2391 [(0, .ref b), (1, .ref (X.2.2 1)), (2, .ref (X.2.2 109)), (3, .ref (X.2.2 108)), (4, .int i)] []) : Z X 3 p l e room_1 s m args below meth c cells slots Q 7 (mk3 Mc Mr g) 322 [(0, .ref b), (1, .ref (X.2.2 1)), (2, .ref (X.2.2 109)), (3, .ref (X.2.2 108)), (4, .int i)] [] := by
  obtain ⟨rx, v, he, hm, hok⟩ := hs
  skip
  refine z_aload_n S dL_law__322 rfl 1 rfl ?_
  refine z_aload_n S dL_law__323 rfl 3 rfl ?_
  obtain ⟨g2, hw, hg2⟩ := okI_wr g hok
  refine z_cW (As := [.ref (X.2.2 1), .ref (X.2.2 108)]) (rest := []) S hNC cw_RL_121 (K_L_hall (Mr := Mr) hl0 he hw) ⟨rfl, rfl⟩ ⟨Nat.le_of_ble_eq_true rfl, Nat.le_of_ble_eq_true rfl⟩ hcs1 rfl rfl (Nat.le_of_ble_eq_true rfl) dL_law__324 ?_
  refine z_istore (lv' := [(0, .ref b), (1, .ref (X.2.2 1)), (2, .ref (X.2.2 109)), (3, .ref (X.2.2 108)), (4, .int i), (5, .int (gI Nr 109 0))]) S [1, 2, 3, 4, 5, 0] dL_law__327 (by decide) rfl ?_
  refine z_aload_n S dL_law__329 rfl 2 rfl ?_
  refine z_wVI (v := 1) (As := []) (rest := []) S ⟨by decide, by decide⟩ agr3r mix3r cv_RL_126 (K_X10_hall hm) ok3_109 (by decide) (q := (RX10, TX10, 28)) rfl rfl ⟨rfl, rfl⟩ ⟨Nat.le_of_ble_eq_true rfl, Nat.le_of_ble_eq_true rfl⟩ hcs1 rfl rfl (Nat.le_of_ble_eq_true rfl) dL_law__330 ?_
  refine z_istore (lv' := [(0, .ref b), (1, .ref (X.2.2 1)), (2, .ref (X.2.2 109)), (3, .ref (X.2.2 108)), (4, .int i), (5, .int (gI Nr 109 0)), (6, .int v)]) S [1, 2, 3, 4, 5, 6, 0] dL_law__333 (by decide) rfl ?_
  refine z_aload_n S dL_law__335 rfl 2 rfl ?_
  refine z_wVI (v := 1) (As := []) (rest := []) S ⟨by decide, by decide⟩ agr3r mix3r cv_RL_127 (K_X10_thrown (M := Nr) rfl) ok3_109 (by decide) (q := (RX10, TX10, 28)) rfl rfl ⟨rfl, rfl⟩ ⟨Nat.le_of_ble_eq_true rfl, Nat.le_of_ble_eq_true rfl⟩ hcs1 rfl rfl (Nat.le_of_ble_eq_true rfl) dL_law__336 ?_
  refine z_iload S dL_law__339 5 rfl ?_
  refine z_icmp_eq (tgt := 346) (A := true) (B := false) (x0 := true) S (if_pos rfl) dL_law__341 (by decide) (fun _ => ?_) (fun he => nomatch he)
  refine z_iload S dL_law__346 5 rfl ?_
  have hfin : Z X 3 p l e room_1 s m args below meth c (cells + 3) (slots + 18) Q 7 (mk3 Nc Nr g2) 363 [(0, .ref b), (1, .ref (X.2.2 1)), (2, .ref (X.2.2 109)), (3, .ref (X.2.2 108)), (4, .int i), (5, .int (gI Nr 109 0)), (6, .int v)] [] := by
    refine z_goto (tgt := 2391) S dL_law__363 (by decide) ?_
    refine z_lv (ks := [0, 1, 2, 3, 4]) rfl ?_
    exact kk g2
  by_cases ht : gI Nr 109 0 = 0
  · refine z_if_ne (tgt := 363) (A := true) (B := false) (x0 := true) S (if_pos ht) dL_law__348 (by decide) (fun he => nomatch he) (fun _ => ?_)
    refine z_aload_n S dL_law__351 rfl 3 rfl ?_
    refine z_iconst (v := 0) S dL_law__352 (by decide) ?_
    refine z_lald (i := 108) (N := 1) (A := some ()) (x0 := ()) S ok3_108 (by decide +kernel) (by decide) dL_law__353 (fun _ => ?_)
    refine z_iload S dL_law__354 6 rfl ?_
    refine z_i2l S dL_law__356 ?_
    refine z_lcmp S dL_law__357 ?_
    refine z_if_eq (tgt := 363) (A := true) (B := false) (x0 := true) S (if_pos (lgc_eq (hg2 ht))) dL_law__358 (by decide) (fun _ => ?_) (fun he => nomatch he)
    exact hfin
  · refine z_if_ne (tgt := 363) (A := true) (B := false) (x0 := false) S (if_neg ht) dL_law__348 (by decide) (fun _ => ?_) (fun he => nomatch he)
    exact hfin
set_option maxRecDepth 100000 in
set_option maxHeartbeats 4000000 in
theorem LC_3 {X : Cx} {p : Program} {l : Launch} {e : Env} {s : State} {m : MethodId} {args : Array Value} {below : List Frame} {meth : Method} {c : Code} {cells slots : Nat} {Q : State → Prop} {b L : Nat} {xs : Nat → Int32} (hl0 : l.stackTraces = false) (S : SB X 3 p s m args meth c cL_law_ 7 ret RL) (hNC : NCF s) (hX : va_X b L xs s s.heap) (hbl : b < s.heap.size) (hbA : ¬ AA X 3 s.heap.size b) {i : Int32} (hin1 : ibs (i + 1) L = true) (hin2 : ibs (i + 2) L = true) (hin3 : ibs (i + 3) L = true) (hin4 : ibs (i + 4) L = true) (hin5 : ibs (i + 5) L = true) (hcs0 : cells ≤ room_1.cells ∧ slots ≤ room_1.slots) (hcs1 : cells + 3 ≤ room_1.cells ∧ slots + 18 ≤ room_1.slots) {Mc Mr Nc Nr : Mm} {g : Nat → Int64} (hs : so_3 (xs (i + 1).toNatClampNeg) (xs (i + 2).toNatClampNeg) (xs (i + 3).toNatClampNeg) (xs (i + 4).toNatClampNeg) (xs (i + 5).toNatClampNeg) Mc Mr Nc Nr) (kk : ∀ g2, Z X 3 p l e room_1 s m args below meth c (cells + 3) (slots + 18) Q 7 (mk3 Nc Nr g2) 2391 [(0, .ref b), (1, .ref (X.2.2 1)), (2, .ref (X.2.2 109)), (3, .ref (X.2.2 108)), (4, .int i)] []) : Z X 3 p l e room_1 s m args below meth c cells slots Q 7 (mk3 Mc Mr g) 366 [(0, .ref b), (1, .ref (X.2.2 1)), (2, .ref (X.2.2 109)), (3, .ref (X.2.2 108)), (4, .int i)] [] := by
  obtain ⟨rx, v, he, hm, hok⟩ := hs
  skip
  refine z_aload_n S dL_law__366 rfl 1 rfl ?_
  refine z_aload_n S dL_law__367 rfl 3 rfl ?_
  obtain ⟨g2, hw, hg2⟩ := okI_wr g hok
  refine z_cW (As := [.ref (X.2.2 1), .ref (X.2.2 108)]) (rest := []) S hNC cw_RL_130 (K_L_law (Mr := Mr) hl0 he hw) ⟨rfl, rfl⟩ ⟨Nat.le_of_ble_eq_true rfl, Nat.le_of_ble_eq_true rfl⟩ hcs1 rfl rfl (Nat.le_of_ble_eq_true rfl) dL_law__368 ?_
  refine z_istore (lv' := [(0, .ref b), (1, .ref (X.2.2 1)), (2, .ref (X.2.2 109)), (3, .ref (X.2.2 108)), (4, .int i), (5, .int (gI Nr 109 0))]) S [1, 2, 3, 4, 5, 0] dL_law__371 (by decide) rfl ?_
  refine z_aload_n S dL_law__373 rfl 2 rfl ?_
  refine z_wVI (v := 1) (As := []) (rest := []) S ⟨by decide, by decide⟩ agr3r mix3r cv_RL_132 (K_X10_law hm) ok3_109 (by decide) (q := (RX10, TX10, 28)) rfl rfl ⟨rfl, rfl⟩ ⟨Nat.le_of_ble_eq_true rfl, Nat.le_of_ble_eq_true rfl⟩ hcs1 rfl rfl (Nat.le_of_ble_eq_true rfl) dL_law__374 ?_
  refine z_istore (lv' := [(0, .ref b), (1, .ref (X.2.2 1)), (2, .ref (X.2.2 109)), (3, .ref (X.2.2 108)), (4, .int i), (5, .int (gI Nr 109 0)), (6, .int v)]) S [1, 2, 3, 4, 5, 6, 0] dL_law__377 (by decide) rfl ?_
  refine z_aload_n S dL_law__379 rfl 2 rfl ?_
  refine z_wVI (v := 1) (As := []) (rest := []) S ⟨by decide, by decide⟩ agr3r mix3r cv_RL_127 (K_X10_thrown (M := Nr) rfl) ok3_109 (by decide) (q := (RX10, TX10, 28)) rfl rfl ⟨rfl, rfl⟩ ⟨Nat.le_of_ble_eq_true rfl, Nat.le_of_ble_eq_true rfl⟩ hcs1 rfl rfl (Nat.le_of_ble_eq_true rfl) dL_law__380 ?_
  refine z_iload S dL_law__383 5 rfl ?_
  refine z_icmp_eq (tgt := 390) (A := true) (B := false) (x0 := true) S (if_pos rfl) dL_law__385 (by decide) (fun _ => ?_) (fun he => nomatch he)
  refine z_iload S dL_law__390 5 rfl ?_
  have hfin : Z X 3 p l e room_1 s m args below meth c (cells + 3) (slots + 18) Q 7 (mk3 Nc Nr g2) 407 [(0, .ref b), (1, .ref (X.2.2 1)), (2, .ref (X.2.2 109)), (3, .ref (X.2.2 108)), (4, .int i), (5, .int (gI Nr 109 0)), (6, .int v)] [] := by
    refine z_goto (tgt := 2391) S dL_law__407 (by decide) ?_
    refine z_lv (ks := [0, 1, 2, 3, 4]) rfl ?_
    exact kk g2
  by_cases ht : gI Nr 109 0 = 0
  · refine z_if_ne (tgt := 407) (A := true) (B := false) (x0 := true) S (if_pos ht) dL_law__392 (by decide) (fun he => nomatch he) (fun _ => ?_)
    refine z_aload_n S dL_law__395 rfl 3 rfl ?_
    refine z_iconst (v := 0) S dL_law__396 (by decide) ?_
    refine z_lald (i := 108) (N := 1) (A := some ()) (x0 := ()) S ok3_108 (by decide +kernel) (by decide) dL_law__397 (fun _ => ?_)
    refine z_iload S dL_law__398 6 rfl ?_
    refine z_i2l S dL_law__400 ?_
    refine z_lcmp S dL_law__401 ?_
    refine z_if_eq (tgt := 407) (A := true) (B := false) (x0 := true) S (if_pos (lgc_eq (hg2 ht))) dL_law__402 (by decide) (fun _ => ?_) (fun he => nomatch he)
    exact hfin
  · refine z_if_ne (tgt := 407) (A := true) (B := false) (x0 := false) S (if_neg ht) dL_law__392 (by decide) (fun _ => ?_) (fun he => nomatch he)
    exact hfin
set_option maxRecDepth 100000 in
set_option maxHeartbeats 4000000 in
theorem LC_4 {X : Cx} {p : Program} {l : Launch} {e : Env} {s : State} {m : MethodId} {args : Array Value} {below : List Frame} {meth : Method} {c : Code} {cells slots : Nat} {Q : State → Prop} {b L : Nat} {xs : Nat → Int32} (hl0 : l.stackTraces = false) (S : SB X 3 p s m args meth c cL_law_ 7 ret RL) (hNC : NCF s) (hX : va_X b L xs s s.heap) (hbl : b < s.heap.size) (hbA : ¬ AA X 3 s.heap.size b) {i : Int32} (hin1 : ibs (i + 1) L = true) (hin2 : ibs (i + 2) L = true) (hin3 : ibs (i + 3) L = true) (hin4 : ibs (i + 4) L = true) (hin5 : ibs (i + 5) L = true) (hcs0 : cells ≤ room_1.cells ∧ slots ≤ room_1.slots) (hcs1 : cells + 3 ≤ room_1.cells ∧ slots + 18 ≤ room_1.slots) {Mc Mr Nc Nr : Mm} {g : Nat → Int64} (hs : so_4 (xs (i + 1).toNatClampNeg) (xs (i + 2).toNatClampNeg) (xs (i + 3).toNatClampNeg) (xs (i + 4).toNatClampNeg) (xs (i + 5).toNatClampNeg) Mc Mr Nc Nr) (kk : ∀ g2, Z X 3 p l e room_1 s m args below meth c (cells + 3) (slots + 18) Q 7 (mk3 Nc Nr g2) 2391 [(0, .ref b), (1, .ref (X.2.2 1)), (2, .ref (X.2.2 109)), (3, .ref (X.2.2 108)), (4, .int i)] []) : Z X 3 p l e room_1 s m args below meth c cells slots Q 7 (mk3 Mc Mr g) 410 [(0, .ref b), (1, .ref (X.2.2 1)), (2, .ref (X.2.2 109)), (3, .ref (X.2.2 108)), (4, .int i)] [] := by
  obtain ⟨v, ⟨he, rfl⟩, hm⟩ := hs
  skip
  refine z_aload_n S dL_law__410 rfl 1 rfl ?_
  refine z_wVI (v := 0) (As := []) (rest := []) S ⟨by decide, by decide⟩ agr3c mix3c cv_RL_133 (K_X9_fault he) ok3_1 (by decide) (q := (RX9, TX9, 17)) rfl rfl ⟨rfl, rfl⟩ ⟨Nat.le_of_ble_eq_true rfl, Nat.le_of_ble_eq_true rfl⟩ hcs0 rfl rfl (Nat.le_of_ble_eq_true rfl) dL_law__411 ?_
  refine z_aload_n S dL_law__414 rfl 2 rfl ?_
  refine z_wVI (v := 1) (As := []) (rest := [.int v]) S ⟨by decide, by decide⟩ agr3r mix3r cv_RL_136 (K_X10_fault hm) ok3_109 (by decide) (q := (RX10, TX10, 28)) rfl rfl ⟨rfl, rfl⟩ ⟨Nat.le_of_ble_eq_true rfl, Nat.le_of_ble_eq_true rfl⟩ hcs0 rfl rfl (Nat.le_of_ble_eq_true rfl) dL_law__415 ?_
  refine z_icmp_eq (tgt := 2391) (A := true) (B := false) (x0 := true) S (if_pos rfl) dL_law__418 (by decide) (fun _ => ?_) (fun he => nomatch he)
  refine z_widen (k := cells + 3) (j := slots + 18) (by omega) (by omega) ?_
  exact kk g
set_option maxRecDepth 100000 in
set_option maxHeartbeats 4000000 in
theorem LC_5 {X : Cx} {p : Program} {l : Launch} {e : Env} {s : State} {m : MethodId} {args : Array Value} {below : List Frame} {meth : Method} {c : Code} {cells slots : Nat} {Q : State → Prop} {b L : Nat} {xs : Nat → Int32} (hl0 : l.stackTraces = false) (S : SB X 3 p s m args meth c cL_law_ 7 ret RL) (hNC : NCF s) (hX : va_X b L xs s s.heap) (hbl : b < s.heap.size) (hbA : ¬ AA X 3 s.heap.size b) {i : Int32} (hin1 : ibs (i + 1) L = true) (hin2 : ibs (i + 2) L = true) (hin3 : ibs (i + 3) L = true) (hin4 : ibs (i + 4) L = true) (hin5 : ibs (i + 5) L = true) (hcs0 : cells ≤ room_1.cells ∧ slots ≤ room_1.slots) (hcs1 : cells + 3 ≤ room_1.cells ∧ slots + 18 ≤ room_1.slots) {Mc Mr Nc Nr : Mm} {g : Nat → Int64} (hs : so_5 (xs (i + 1).toNatClampNeg) (xs (i + 2).toNatClampNeg) (xs (i + 3).toNatClampNeg) (xs (i + 4).toNatClampNeg) (xs (i + 5).toNatClampNeg) Mc Mr Nc Nr) (kk : ∀ g2, Z X 3 p l e room_1 s m args below meth c (cells + 3) (slots + 18) Q 7 (mk3 Nc Nr g2) 2391 [(0, .ref b), (1, .ref (X.2.2 1)), (2, .ref (X.2.2 109)), (3, .ref (X.2.2 108)), (4, .int i)] []) : Z X 3 p l e room_1 s m args below meth c cells slots Q 7 (mk3 Mc Mr g) 423 [(0, .ref b), (1, .ref (X.2.2 1)), (2, .ref (X.2.2 109)), (3, .ref (X.2.2 108)), (4, .int i)] [] := by
  obtain ⟨rx, v, he, hm, hok⟩ := hs
  skip
  refine z_aload_n S dL_law__423 rfl 1 rfl ?_
  refine z_aload_n S dL_law__424 rfl 0 rfl ?_
  refine z_iload S dL_law__425 4 rfl ?_
  refine z_iconst (v := 1) S dL_law__427 (by decide) ?_
  refine z_iadd S dL_law__428 ?_
  refine z_sld S hX hbl hbA hin1 dL_law__429 ?_
  refine z_aload_n S dL_law__430 rfl 0 rfl ?_
  refine z_iload S dL_law__431 4 rfl ?_
  refine z_iconst (v := 2) S dL_law__433 (by decide) ?_
  refine z_iadd S dL_law__434 ?_
  refine z_sld S hX hbl hbA hin2 dL_law__435 ?_
  refine z_aload_n S dL_law__436 rfl 3 rfl ?_
  obtain ⟨g2, hw, hg2⟩ := okI_wr g hok
  refine z_cW (As := [.ref (X.2.2 1), .int (xs (i + 1).toNatClampNeg), .int (xs (i + 2).toNatClampNeg), .ref (X.2.2 108)]) (rest := []) S hNC cw_RL_137 (K_L_thing (Mr := Mr) hl0 he hw) ⟨rfl, rfl⟩ ⟨Nat.le_of_ble_eq_true rfl, Nat.le_of_ble_eq_true rfl⟩ hcs1 rfl rfl (Nat.le_of_ble_eq_true rfl) dL_law__437 ?_
  refine z_istore (lv' := [(0, .ref b), (1, .ref (X.2.2 1)), (2, .ref (X.2.2 109)), (3, .ref (X.2.2 108)), (4, .int i), (5, .int (gI Nr 109 0))]) S [1, 2, 3, 4, 5, 0] dL_law__440 (by decide) rfl ?_
  refine z_aload_n S dL_law__442 rfl 2 rfl ?_
  refine z_aload_n S dL_law__443 rfl 0 rfl ?_
  refine z_iload S dL_law__444 4 rfl ?_
  refine z_iconst (v := 1) S dL_law__446 (by decide) ?_
  refine z_iadd S dL_law__447 ?_
  refine z_sld S hX hbl hbA hin1 dL_law__448 ?_
  refine z_aload_n S dL_law__449 rfl 0 rfl ?_
  refine z_iload S dL_law__450 4 rfl ?_
  refine z_iconst (v := 2) S dL_law__452 (by decide) ?_
  refine z_iadd S dL_law__453 ?_
  refine z_sld S hX hbl hbA hin2 dL_law__454 ?_
  refine z_wVI (v := 1) (As := [.int (xs (i + 1).toNatClampNeg), .int (xs (i + 2).toNatClampNeg)]) (rest := []) S ⟨by decide, by decide⟩ agr3r mix3r cv_RL_140 (K_X10_thing hm) ok3_109 (by decide) (q := (RX10, TX10, 28)) rfl rfl ⟨rfl, rfl⟩ ⟨Nat.le_of_ble_eq_true rfl, Nat.le_of_ble_eq_true rfl⟩ hcs1 rfl rfl (Nat.le_of_ble_eq_true rfl) dL_law__455 ?_
  refine z_istore (lv' := [(0, .ref b), (1, .ref (X.2.2 1)), (2, .ref (X.2.2 109)), (3, .ref (X.2.2 108)), (4, .int i), (5, .int (gI Nr 109 0)), (6, .int v)]) S [1, 2, 3, 4, 5, 6, 0] dL_law__458 (by decide) rfl ?_
  refine z_aload_n S dL_law__460 rfl 2 rfl ?_
  refine z_wVI (v := 1) (As := []) (rest := []) S ⟨by decide, by decide⟩ agr3r mix3r cv_RL_127 (K_X10_thrown (M := Nr) rfl) ok3_109 (by decide) (q := (RX10, TX10, 28)) rfl rfl ⟨rfl, rfl⟩ ⟨Nat.le_of_ble_eq_true rfl, Nat.le_of_ble_eq_true rfl⟩ hcs1 rfl rfl (Nat.le_of_ble_eq_true rfl) dL_law__461 ?_
  refine z_iload S dL_law__464 5 rfl ?_
  refine z_icmp_eq (tgt := 471) (A := true) (B := false) (x0 := true) S (if_pos rfl) dL_law__466 (by decide) (fun _ => ?_) (fun he => nomatch he)
  refine z_iload S dL_law__471 5 rfl ?_
  have hfin : Z X 3 p l e room_1 s m args below meth c (cells + 3) (slots + 18) Q 7 (mk3 Nc Nr g2) 488 [(0, .ref b), (1, .ref (X.2.2 1)), (2, .ref (X.2.2 109)), (3, .ref (X.2.2 108)), (4, .int i), (5, .int (gI Nr 109 0)), (6, .int v)] [] := by
    refine z_goto (tgt := 2391) S dL_law__488 (by decide) ?_
    refine z_lv (ks := [0, 1, 2, 3, 4]) rfl ?_
    exact kk g2
  by_cases ht : gI Nr 109 0 = 0
  · refine z_if_ne (tgt := 488) (A := true) (B := false) (x0 := true) S (if_pos ht) dL_law__473 (by decide) (fun he => nomatch he) (fun _ => ?_)
    refine z_aload_n S dL_law__476 rfl 3 rfl ?_
    refine z_iconst (v := 0) S dL_law__477 (by decide) ?_
    refine z_lald (i := 108) (N := 1) (A := some ()) (x0 := ()) S ok3_108 (by decide +kernel) (by decide) dL_law__478 (fun _ => ?_)
    refine z_iload S dL_law__479 6 rfl ?_
    refine z_i2l S dL_law__481 ?_
    refine z_lcmp S dL_law__482 ?_
    refine z_if_eq (tgt := 488) (A := true) (B := false) (x0 := true) S (if_pos (lgc_eq (hg2 ht))) dL_law__483 (by decide) (fun _ => ?_) (fun he => nomatch he)
    exact hfin
  · refine z_if_ne (tgt := 488) (A := true) (B := false) (x0 := false) S (if_neg ht) dL_law__473 (by decide) (fun _ => ?_) (fun he => nomatch he)
    exact hfin
set_option maxRecDepth 100000 in
set_option maxHeartbeats 4000000 in
theorem LC_6 {X : Cx} {p : Program} {l : Launch} {e : Env} {s : State} {m : MethodId} {args : Array Value} {below : List Frame} {meth : Method} {c : Code} {cells slots : Nat} {Q : State → Prop} {b L : Nat} {xs : Nat → Int32} (hl0 : l.stackTraces = false) (S : SB X 3 p s m args meth c cL_law_ 7 ret RL) (hNC : NCF s) (hX : va_X b L xs s s.heap) (hbl : b < s.heap.size) (hbA : ¬ AA X 3 s.heap.size b) {i : Int32} (hin1 : ibs (i + 1) L = true) (hin2 : ibs (i + 2) L = true) (hin3 : ibs (i + 3) L = true) (hin4 : ibs (i + 4) L = true) (hin5 : ibs (i + 5) L = true) (hcs0 : cells ≤ room_1.cells ∧ slots ≤ room_1.slots) (hcs1 : cells + 3 ≤ room_1.cells ∧ slots + 18 ≤ room_1.slots) {Mc Mr Nc Nr : Mm} {g : Nat → Int64} (hs : so_6 (xs (i + 1).toNatClampNeg) (xs (i + 2).toNatClampNeg) (xs (i + 3).toNatClampNeg) (xs (i + 4).toNatClampNeg) (xs (i + 5).toNatClampNeg) Mc Mr Nc Nr) (kk : ∀ g2, Z X 3 p l e room_1 s m args below meth c (cells + 3) (slots + 18) Q 7 (mk3 Nc Nr g2) 2391 [(0, .ref b), (1, .ref (X.2.2 1)), (2, .ref (X.2.2 109)), (3, .ref (X.2.2 108)), (4, .int i)] []) : Z X 3 p l e room_1 s m args below meth c cells slots Q 7 (mk3 Mc Mr g) 491 [(0, .ref b), (1, .ref (X.2.2 1)), (2, .ref (X.2.2 109)), (3, .ref (X.2.2 108)), (4, .int i)] [] := by
  obtain ⟨rx, v, he, hm, hok⟩ := hs
  skip
  refine z_aload_n S dL_law__491 rfl 1 rfl ?_
  refine z_aload_n S dL_law__492 rfl 0 rfl ?_
  refine z_iload S dL_law__493 4 rfl ?_
  refine z_iconst (v := 1) S dL_law__495 (by decide) ?_
  refine z_iadd S dL_law__496 ?_
  refine z_sld S hX hbl hbA hin1 dL_law__497 ?_
  refine z_aload_n S dL_law__498 rfl 0 rfl ?_
  refine z_iload S dL_law__499 4 rfl ?_
  refine z_iconst (v := 2) S dL_law__501 (by decide) ?_
  refine z_iadd S dL_law__502 ?_
  refine z_sld S hX hbl hbA hin2 dL_law__503 ?_
  refine z_aload_n S dL_law__504 rfl 3 rfl ?_
  obtain ⟨g2, hw, hg2⟩ := okI_wr g hok
  refine z_cW (As := [.ref (X.2.2 1), .int (xs (i + 1).toNatClampNeg), .int (xs (i + 2).toNatClampNeg), .ref (X.2.2 108)]) (rest := []) S hNC cw_RL_141 (K_L_visitor (Mr := Mr) hl0 he hw) ⟨rfl, rfl⟩ ⟨Nat.le_of_ble_eq_true rfl, Nat.le_of_ble_eq_true rfl⟩ hcs1 rfl rfl (Nat.le_of_ble_eq_true rfl) dL_law__505 ?_
  refine z_istore (lv' := [(0, .ref b), (1, .ref (X.2.2 1)), (2, .ref (X.2.2 109)), (3, .ref (X.2.2 108)), (4, .int i), (5, .int (gI Nr 109 0))]) S [1, 2, 3, 4, 5, 0] dL_law__508 (by decide) rfl ?_
  refine z_aload_n S dL_law__510 rfl 2 rfl ?_
  refine z_aload_n S dL_law__511 rfl 0 rfl ?_
  refine z_iload S dL_law__512 4 rfl ?_
  refine z_iconst (v := 1) S dL_law__514 (by decide) ?_
  refine z_iadd S dL_law__515 ?_
  refine z_sld S hX hbl hbA hin1 dL_law__516 ?_
  refine z_aload_n S dL_law__517 rfl 0 rfl ?_
  refine z_iload S dL_law__518 4 rfl ?_
  refine z_iconst (v := 2) S dL_law__520 (by decide) ?_
  refine z_iadd S dL_law__521 ?_
  refine z_sld S hX hbl hbA hin2 dL_law__522 ?_
  refine z_wVI (v := 1) (As := [.int (xs (i + 1).toNatClampNeg), .int (xs (i + 2).toNatClampNeg)]) (rest := []) S ⟨by decide, by decide⟩ agr3r mix3r cv_RL_143 (K_X10_visitor hm) ok3_109 (by decide) (q := (RX10, TX10, 28)) rfl rfl ⟨rfl, rfl⟩ ⟨Nat.le_of_ble_eq_true rfl, Nat.le_of_ble_eq_true rfl⟩ hcs1 rfl rfl (Nat.le_of_ble_eq_true rfl) dL_law__523 ?_
  refine z_istore (lv' := [(0, .ref b), (1, .ref (X.2.2 1)), (2, .ref (X.2.2 109)), (3, .ref (X.2.2 108)), (4, .int i), (5, .int (gI Nr 109 0)), (6, .int v)]) S [1, 2, 3, 4, 5, 6, 0] dL_law__526 (by decide) rfl ?_
  refine z_aload_n S dL_law__528 rfl 2 rfl ?_
  refine z_wVI (v := 1) (As := []) (rest := []) S ⟨by decide, by decide⟩ agr3r mix3r cv_RL_127 (K_X10_thrown (M := Nr) rfl) ok3_109 (by decide) (q := (RX10, TX10, 28)) rfl rfl ⟨rfl, rfl⟩ ⟨Nat.le_of_ble_eq_true rfl, Nat.le_of_ble_eq_true rfl⟩ hcs1 rfl rfl (Nat.le_of_ble_eq_true rfl) dL_law__529 ?_
  refine z_iload S dL_law__532 5 rfl ?_
  refine z_icmp_eq (tgt := 539) (A := true) (B := false) (x0 := true) S (if_pos rfl) dL_law__534 (by decide) (fun _ => ?_) (fun he => nomatch he)
  refine z_iload S dL_law__539 5 rfl ?_
  have hfin : Z X 3 p l e room_1 s m args below meth c (cells + 3) (slots + 18) Q 7 (mk3 Nc Nr g2) 556 [(0, .ref b), (1, .ref (X.2.2 1)), (2, .ref (X.2.2 109)), (3, .ref (X.2.2 108)), (4, .int i), (5, .int (gI Nr 109 0)), (6, .int v)] [] := by
    refine z_goto (tgt := 2391) S dL_law__556 (by decide) ?_
    refine z_lv (ks := [0, 1, 2, 3, 4]) rfl ?_
    exact kk g2
  by_cases ht : gI Nr 109 0 = 0
  · refine z_if_ne (tgt := 556) (A := true) (B := false) (x0 := true) S (if_pos ht) dL_law__541 (by decide) (fun he => nomatch he) (fun _ => ?_)
    refine z_aload_n S dL_law__544 rfl 3 rfl ?_
    refine z_iconst (v := 0) S dL_law__545 (by decide) ?_
    refine z_lald (i := 108) (N := 1) (A := some ()) (x0 := ()) S ok3_108 (by decide +kernel) (by decide) dL_law__546 (fun _ => ?_)
    refine z_iload S dL_law__547 6 rfl ?_
    refine z_i2l S dL_law__549 ?_
    refine z_lcmp S dL_law__550 ?_
    refine z_if_eq (tgt := 556) (A := true) (B := false) (x0 := true) S (if_pos (lgc_eq (hg2 ht))) dL_law__551 (by decide) (fun _ => ?_) (fun he => nomatch he)
    exact hfin
  · refine z_if_ne (tgt := 556) (A := true) (B := false) (x0 := false) S (if_neg ht) dL_law__541 (by decide) (fun _ => ?_) (fun he => nomatch he)
    exact hfin
set_option maxRecDepth 100000 in
set_option maxHeartbeats 4000000 in
theorem LC_7 {X : Cx} {p : Program} {l : Launch} {e : Env} {s : State} {m : MethodId} {args : Array Value} {below : List Frame} {meth : Method} {c : Code} {cells slots : Nat} {Q : State → Prop} {b L : Nat} {xs : Nat → Int32} (hl0 : l.stackTraces = false) (S : SB X 3 p s m args meth c cL_law_ 7 ret RL) (hNC : NCF s) (hX : va_X b L xs s s.heap) (hbl : b < s.heap.size) (hbA : ¬ AA X 3 s.heap.size b) {i : Int32} (hin1 : ibs (i + 1) L = true) (hin2 : ibs (i + 2) L = true) (hin3 : ibs (i + 3) L = true) (hin4 : ibs (i + 4) L = true) (hin5 : ibs (i + 5) L = true) (hcs0 : cells ≤ room_1.cells ∧ slots ≤ room_1.slots) (hcs1 : cells + 3 ≤ room_1.cells ∧ slots + 18 ≤ room_1.slots) {Mc Mr Nc Nr : Mm} {g : Nat → Int64} (hs : so_7 (xs (i + 1).toNatClampNeg) (xs (i + 2).toNatClampNeg) (xs (i + 3).toNatClampNeg) (xs (i + 4).toNatClampNeg) (xs (i + 5).toNatClampNeg) Mc Mr Nc Nr) (kk : ∀ g2, Z X 3 p l e room_1 s m args below meth c (cells + 3) (slots + 18) Q 7 (mk3 Nc Nr g2) 2391 [(0, .ref b), (1, .ref (X.2.2 1)), (2, .ref (X.2.2 109)), (3, .ref (X.2.2 108)), (4, .int i)] []) : Z X 3 p l e room_1 s m args below meth c cells slots Q 7 (mk3 Mc Mr g) 559 [(0, .ref b), (1, .ref (X.2.2 1)), (2, .ref (X.2.2 109)), (3, .ref (X.2.2 108)), (4, .int i)] [] := by
  obtain ⟨rx, v, he, hm, hok⟩ := hs
  skip
  refine z_aload_n S dL_law__559 rfl 1 rfl ?_
  refine z_aload_n S dL_law__560 rfl 0 rfl ?_
  refine z_iload S dL_law__561 4 rfl ?_
  refine z_iconst (v := 1) S dL_law__563 (by decide) ?_
  refine z_iadd S dL_law__564 ?_
  refine z_sld S hX hbl hbA hin1 dL_law__565 ?_
  refine z_aload_n S dL_law__566 rfl 0 rfl ?_
  refine z_iload S dL_law__567 4 rfl ?_
  refine z_iconst (v := 2) S dL_law__569 (by decide) ?_
  refine z_iadd S dL_law__570 ?_
  refine z_sld S hX hbl hbA hin2 dL_law__571 ?_
  refine z_aload_n S dL_law__572 rfl 3 rfl ?_
  obtain ⟨g2, hw, hg2⟩ := okI_wr g hok
  refine z_cW (As := [.ref (X.2.2 1), .int (xs (i + 1).toNatClampNeg), .int (xs (i + 2).toNatClampNeg), .ref (X.2.2 108)]) (rest := []) S hNC cw_RL_144 (K_L_liking (Mr := Mr) hl0 he hw) ⟨rfl, rfl⟩ ⟨Nat.le_of_ble_eq_true rfl, Nat.le_of_ble_eq_true rfl⟩ hcs1 rfl rfl (Nat.le_of_ble_eq_true rfl) dL_law__573 ?_
  refine z_istore (lv' := [(0, .ref b), (1, .ref (X.2.2 1)), (2, .ref (X.2.2 109)), (3, .ref (X.2.2 108)), (4, .int i), (5, .int (gI Nr 109 0))]) S [1, 2, 3, 4, 5, 0] dL_law__576 (by decide) rfl ?_
  refine z_aload_n S dL_law__578 rfl 2 rfl ?_
  refine z_aload_n S dL_law__579 rfl 0 rfl ?_
  refine z_iload S dL_law__580 4 rfl ?_
  refine z_iconst (v := 1) S dL_law__582 (by decide) ?_
  refine z_iadd S dL_law__583 ?_
  refine z_sld S hX hbl hbA hin1 dL_law__584 ?_
  refine z_aload_n S dL_law__585 rfl 0 rfl ?_
  refine z_iload S dL_law__586 4 rfl ?_
  refine z_iconst (v := 2) S dL_law__588 (by decide) ?_
  refine z_iadd S dL_law__589 ?_
  refine z_sld S hX hbl hbA hin2 dL_law__590 ?_
  refine z_wVI (v := 1) (As := [.int (xs (i + 1).toNatClampNeg), .int (xs (i + 2).toNatClampNeg)]) (rest := []) S ⟨by decide, by decide⟩ agr3r mix3r cv_RL_146 (K_X10_liking hm) ok3_109 (by decide) (q := (RX10, TX10, 28)) rfl rfl ⟨rfl, rfl⟩ ⟨Nat.le_of_ble_eq_true rfl, Nat.le_of_ble_eq_true rfl⟩ hcs1 rfl rfl (Nat.le_of_ble_eq_true rfl) dL_law__591 ?_
  refine z_istore (lv' := [(0, .ref b), (1, .ref (X.2.2 1)), (2, .ref (X.2.2 109)), (3, .ref (X.2.2 108)), (4, .int i), (5, .int (gI Nr 109 0)), (6, .int v)]) S [1, 2, 3, 4, 5, 6, 0] dL_law__594 (by decide) rfl ?_
  refine z_aload_n S dL_law__596 rfl 2 rfl ?_
  refine z_wVI (v := 1) (As := []) (rest := []) S ⟨by decide, by decide⟩ agr3r mix3r cv_RL_127 (K_X10_thrown (M := Nr) rfl) ok3_109 (by decide) (q := (RX10, TX10, 28)) rfl rfl ⟨rfl, rfl⟩ ⟨Nat.le_of_ble_eq_true rfl, Nat.le_of_ble_eq_true rfl⟩ hcs1 rfl rfl (Nat.le_of_ble_eq_true rfl) dL_law__597 ?_
  refine z_iload S dL_law__600 5 rfl ?_
  refine z_icmp_eq (tgt := 607) (A := true) (B := false) (x0 := true) S (if_pos rfl) dL_law__602 (by decide) (fun _ => ?_) (fun he => nomatch he)
  refine z_iload S dL_law__607 5 rfl ?_
  have hfin : Z X 3 p l e room_1 s m args below meth c (cells + 3) (slots + 18) Q 7 (mk3 Nc Nr g2) 624 [(0, .ref b), (1, .ref (X.2.2 1)), (2, .ref (X.2.2 109)), (3, .ref (X.2.2 108)), (4, .int i), (5, .int (gI Nr 109 0)), (6, .int v)] [] := by
    refine z_goto (tgt := 2391) S dL_law__624 (by decide) ?_
    refine z_lv (ks := [0, 1, 2, 3, 4]) rfl ?_
    exact kk g2
  by_cases ht : gI Nr 109 0 = 0
  · refine z_if_ne (tgt := 624) (A := true) (B := false) (x0 := true) S (if_pos ht) dL_law__609 (by decide) (fun he => nomatch he) (fun _ => ?_)
    refine z_aload_n S dL_law__612 rfl 3 rfl ?_
    refine z_iconst (v := 0) S dL_law__613 (by decide) ?_
    refine z_lald (i := 108) (N := 1) (A := some ()) (x0 := ()) S ok3_108 (by decide +kernel) (by decide) dL_law__614 (fun _ => ?_)
    refine z_iload S dL_law__615 6 rfl ?_
    refine z_i2l S dL_law__617 ?_
    refine z_lcmp S dL_law__618 ?_
    refine z_if_eq (tgt := 624) (A := true) (B := false) (x0 := true) S (if_pos (lgc_eq (hg2 ht))) dL_law__619 (by decide) (fun _ => ?_) (fun he => nomatch he)
    exact hfin
  · refine z_if_ne (tgt := 624) (A := true) (B := false) (x0 := false) S (if_neg ht) dL_law__609 (by decide) (fun _ => ?_) (fun he => nomatch he)
    exact hfin
set_option maxRecDepth 100000 in
set_option maxHeartbeats 4000000 in
theorem LC_8 {X : Cx} {p : Program} {l : Launch} {e : Env} {s : State} {m : MethodId} {args : Array Value} {below : List Frame} {meth : Method} {c : Code} {cells slots : Nat} {Q : State → Prop} {b L : Nat} {xs : Nat → Int32} (hl0 : l.stackTraces = false) (S : SB X 3 p s m args meth c cL_law_ 7 ret RL) (hNC : NCF s) (hX : va_X b L xs s s.heap) (hbl : b < s.heap.size) (hbA : ¬ AA X 3 s.heap.size b) {i : Int32} (hin1 : ibs (i + 1) L = true) (hin2 : ibs (i + 2) L = true) (hin3 : ibs (i + 3) L = true) (hin4 : ibs (i + 4) L = true) (hin5 : ibs (i + 5) L = true) (hcs0 : cells ≤ room_1.cells ∧ slots ≤ room_1.slots) (hcs1 : cells + 3 ≤ room_1.cells ∧ slots + 18 ≤ room_1.slots) {Mc Mr Nc Nr : Mm} {g : Nat → Int64} (hs : so_8 (xs (i + 1).toNatClampNeg) (xs (i + 2).toNatClampNeg) (xs (i + 3).toNatClampNeg) (xs (i + 4).toNatClampNeg) (xs (i + 5).toNatClampNeg) Mc Mr Nc Nr) (kk : ∀ g2, Z X 3 p l e room_1 s m args below meth c (cells + 3) (slots + 18) Q 7 (mk3 Nc Nr g2) 2391 [(0, .ref b), (1, .ref (X.2.2 1)), (2, .ref (X.2.2 109)), (3, .ref (X.2.2 108)), (4, .int i)] []) : Z X 3 p l e room_1 s m args below meth c cells slots Q 7 (mk3 Mc Mr g) 627 [(0, .ref b), (1, .ref (X.2.2 1)), (2, .ref (X.2.2 109)), (3, .ref (X.2.2 108)), (4, .int i)] [] := by
  obtain ⟨rx, v, he, hm, hok⟩ := hs
  skip
  refine z_aload_n S dL_law__627 rfl 1 rfl ?_
  refine z_aload_n S dL_law__628 rfl 0 rfl ?_
  refine z_iload S dL_law__629 4 rfl ?_
  refine z_iconst (v := 1) S dL_law__631 (by decide) ?_
  refine z_iadd S dL_law__632 ?_
  refine z_sld S hX hbl hbA hin1 dL_law__633 ?_
  refine z_aload_n S dL_law__634 rfl 0 rfl ?_
  refine z_iload S dL_law__635 4 rfl ?_
  refine z_iconst (v := 2) S dL_law__637 (by decide) ?_
  refine z_iadd S dL_law__638 ?_
  refine z_sld S hX hbl hbA hin2 dL_law__639 ?_
  refine z_aload_n S dL_law__640 rfl 3 rfl ?_
  obtain ⟨g2, hw, hg2⟩ := okI_wr g hok
  refine z_cW (As := [.ref (X.2.2 1), .int (xs (i + 1).toNatClampNeg), .int (xs (i + 2).toNatClampNeg), .ref (X.2.2 108)]) (rest := []) S hNC cw_RL_147 (K_L_move (Mr := Mr) hl0 he hw) ⟨rfl, rfl⟩ ⟨Nat.le_of_ble_eq_true rfl, Nat.le_of_ble_eq_true rfl⟩ hcs1 rfl rfl (Nat.le_of_ble_eq_true rfl) dL_law__641 ?_
  refine z_istore (lv' := [(0, .ref b), (1, .ref (X.2.2 1)), (2, .ref (X.2.2 109)), (3, .ref (X.2.2 108)), (4, .int i), (5, .int (gI Nr 109 0))]) S [1, 2, 3, 4, 5, 0] dL_law__644 (by decide) rfl ?_
  refine z_aload_n S dL_law__646 rfl 2 rfl ?_
  refine z_aload_n S dL_law__647 rfl 0 rfl ?_
  refine z_iload S dL_law__648 4 rfl ?_
  refine z_iconst (v := 1) S dL_law__650 (by decide) ?_
  refine z_iadd S dL_law__651 ?_
  refine z_sld S hX hbl hbA hin1 dL_law__652 ?_
  refine z_aload_n S dL_law__653 rfl 0 rfl ?_
  refine z_iload S dL_law__654 4 rfl ?_
  refine z_iconst (v := 2) S dL_law__656 (by decide) ?_
  refine z_iadd S dL_law__657 ?_
  refine z_sld S hX hbl hbA hin2 dL_law__658 ?_
  refine z_wVI (v := 1) (As := [.int (xs (i + 1).toNatClampNeg), .int (xs (i + 2).toNatClampNeg)]) (rest := []) S ⟨by decide, by decide⟩ agr3r mix3r cv_RL_149 (K_X10_move hm) ok3_109 (by decide) (q := (RX10, TX10, 28)) rfl rfl ⟨rfl, rfl⟩ ⟨Nat.le_of_ble_eq_true rfl, Nat.le_of_ble_eq_true rfl⟩ hcs1 rfl rfl (Nat.le_of_ble_eq_true rfl) dL_law__659 ?_
  refine z_istore (lv' := [(0, .ref b), (1, .ref (X.2.2 1)), (2, .ref (X.2.2 109)), (3, .ref (X.2.2 108)), (4, .int i), (5, .int (gI Nr 109 0)), (6, .int v)]) S [1, 2, 3, 4, 5, 6, 0] dL_law__662 (by decide) rfl ?_
  refine z_aload_n S dL_law__664 rfl 2 rfl ?_
  refine z_wVI (v := 1) (As := []) (rest := []) S ⟨by decide, by decide⟩ agr3r mix3r cv_RL_127 (K_X10_thrown (M := Nr) rfl) ok3_109 (by decide) (q := (RX10, TX10, 28)) rfl rfl ⟨rfl, rfl⟩ ⟨Nat.le_of_ble_eq_true rfl, Nat.le_of_ble_eq_true rfl⟩ hcs1 rfl rfl (Nat.le_of_ble_eq_true rfl) dL_law__665 ?_
  refine z_iload S dL_law__668 5 rfl ?_
  refine z_icmp_eq (tgt := 675) (A := true) (B := false) (x0 := true) S (if_pos rfl) dL_law__670 (by decide) (fun _ => ?_) (fun he => nomatch he)
  refine z_iload S dL_law__675 5 rfl ?_
  have hfin : Z X 3 p l e room_1 s m args below meth c (cells + 3) (slots + 18) Q 7 (mk3 Nc Nr g2) 692 [(0, .ref b), (1, .ref (X.2.2 1)), (2, .ref (X.2.2 109)), (3, .ref (X.2.2 108)), (4, .int i), (5, .int (gI Nr 109 0)), (6, .int v)] [] := by
    refine z_goto (tgt := 2391) S dL_law__692 (by decide) ?_
    refine z_lv (ks := [0, 1, 2, 3, 4]) rfl ?_
    exact kk g2
  by_cases ht : gI Nr 109 0 = 0
  · refine z_if_ne (tgt := 692) (A := true) (B := false) (x0 := true) S (if_pos ht) dL_law__677 (by decide) (fun he => nomatch he) (fun _ => ?_)
    refine z_aload_n S dL_law__680 rfl 3 rfl ?_
    refine z_iconst (v := 0) S dL_law__681 (by decide) ?_
    refine z_lald (i := 108) (N := 1) (A := some ()) (x0 := ()) S ok3_108 (by decide +kernel) (by decide) dL_law__682 (fun _ => ?_)
    refine z_iload S dL_law__683 6 rfl ?_
    refine z_i2l S dL_law__685 ?_
    refine z_lcmp S dL_law__686 ?_
    refine z_if_eq (tgt := 692) (A := true) (B := false) (x0 := true) S (if_pos (lgc_eq (hg2 ht))) dL_law__687 (by decide) (fun _ => ?_) (fun he => nomatch he)
    exact hfin
  · refine z_if_ne (tgt := 692) (A := true) (B := false) (x0 := false) S (if_neg ht) dL_law__677 (by decide) (fun _ => ?_) (fun he => nomatch he)
    exact hfin
set_option maxRecDepth 100000 in
set_option maxHeartbeats 4000000 in
theorem LC_9 {X : Cx} {p : Program} {l : Launch} {e : Env} {s : State} {m : MethodId} {args : Array Value} {below : List Frame} {meth : Method} {c : Code} {cells slots : Nat} {Q : State → Prop} {b L : Nat} {xs : Nat → Int32} (hl0 : l.stackTraces = false) (S : SB X 3 p s m args meth c cL_law_ 7 ret RL) (hNC : NCF s) (hX : va_X b L xs s s.heap) (hbl : b < s.heap.size) (hbA : ¬ AA X 3 s.heap.size b) {i : Int32} (hin1 : ibs (i + 1) L = true) (hin2 : ibs (i + 2) L = true) (hin3 : ibs (i + 3) L = true) (hin4 : ibs (i + 4) L = true) (hin5 : ibs (i + 5) L = true) (hcs0 : cells ≤ room_1.cells ∧ slots ≤ room_1.slots) (hcs1 : cells + 3 ≤ room_1.cells ∧ slots + 18 ≤ room_1.slots) {Mc Mr Nc Nr : Mm} {g : Nat → Int64} (hs : so_9 (xs (i + 1).toNatClampNeg) (xs (i + 2).toNatClampNeg) (xs (i + 3).toNatClampNeg) (xs (i + 4).toNatClampNeg) (xs (i + 5).toNatClampNeg) Mc Mr Nc Nr) (kk : ∀ g2, Z X 3 p l e room_1 s m args below meth c (cells + 3) (slots + 18) Q 7 (mk3 Nc Nr g2) 2391 [(0, .ref b), (1, .ref (X.2.2 1)), (2, .ref (X.2.2 109)), (3, .ref (X.2.2 108)), (4, .int i)] []) : Z X 3 p l e room_1 s m args below meth c cells slots Q 7 (mk3 Mc Mr g) 695 [(0, .ref b), (1, .ref (X.2.2 1)), (2, .ref (X.2.2 109)), (3, .ref (X.2.2 108)), (4, .int i)] [] := by
  obtain ⟨rx, v, he, hm, hok⟩ := hs
  skip
  refine z_aload_n S dL_law__695 rfl 1 rfl ?_
  refine z_aload_n S dL_law__696 rfl 0 rfl ?_
  refine z_iload S dL_law__697 4 rfl ?_
  refine z_iconst (v := 1) S dL_law__699 (by decide) ?_
  refine z_iadd S dL_law__700 ?_
  refine z_sld S hX hbl hbA hin1 dL_law__701 ?_
  refine z_aload_n S dL_law__702 rfl 0 rfl ?_
  refine z_iload S dL_law__703 4 rfl ?_
  refine z_iconst (v := 2) S dL_law__705 (by decide) ?_
  refine z_iadd S dL_law__706 ?_
  refine z_sld S hX hbl hbA hin2 dL_law__707 ?_
  refine z_aload_n S dL_law__708 rfl 3 rfl ?_
  obtain ⟨g2, hw, hg2⟩ := okI_wr g hok
  refine z_cW (As := [.ref (X.2.2 1), .int (xs (i + 1).toNatClampNeg), .int (xs (i + 2).toNatClampNeg), .ref (X.2.2 108)]) (rest := []) S hNC cw_RL_150 (K_L_hold (Mr := Mr) hl0 he hw) ⟨rfl, rfl⟩ ⟨Nat.le_of_ble_eq_true rfl, Nat.le_of_ble_eq_true rfl⟩ hcs1 rfl rfl (Nat.le_of_ble_eq_true rfl) dL_law__709 ?_
  refine z_istore (lv' := [(0, .ref b), (1, .ref (X.2.2 1)), (2, .ref (X.2.2 109)), (3, .ref (X.2.2 108)), (4, .int i), (5, .int (gI Nr 109 0))]) S [1, 2, 3, 4, 5, 0] dL_law__712 (by decide) rfl ?_
  refine z_aload_n S dL_law__714 rfl 2 rfl ?_
  refine z_aload_n S dL_law__715 rfl 0 rfl ?_
  refine z_iload S dL_law__716 4 rfl ?_
  refine z_iconst (v := 1) S dL_law__718 (by decide) ?_
  refine z_iadd S dL_law__719 ?_
  refine z_sld S hX hbl hbA hin1 dL_law__720 ?_
  refine z_aload_n S dL_law__721 rfl 0 rfl ?_
  refine z_iload S dL_law__722 4 rfl ?_
  refine z_iconst (v := 2) S dL_law__724 (by decide) ?_
  refine z_iadd S dL_law__725 ?_
  refine z_sld S hX hbl hbA hin2 dL_law__726 ?_
  refine z_wVI (v := 1) (As := [.int (xs (i + 1).toNatClampNeg), .int (xs (i + 2).toNatClampNeg)]) (rest := []) S ⟨by decide, by decide⟩ agr3r mix3r cv_RL_152 (K_X10_hold hm) ok3_109 (by decide) (q := (RX10, TX10, 28)) rfl rfl ⟨rfl, rfl⟩ ⟨Nat.le_of_ble_eq_true rfl, Nat.le_of_ble_eq_true rfl⟩ hcs1 rfl rfl (Nat.le_of_ble_eq_true rfl) dL_law__727 ?_
  refine z_istore (lv' := [(0, .ref b), (1, .ref (X.2.2 1)), (2, .ref (X.2.2 109)), (3, .ref (X.2.2 108)), (4, .int i), (5, .int (gI Nr 109 0)), (6, .int v)]) S [1, 2, 3, 4, 5, 6, 0] dL_law__730 (by decide) rfl ?_
  refine z_aload_n S dL_law__732 rfl 2 rfl ?_
  refine z_wVI (v := 1) (As := []) (rest := []) S ⟨by decide, by decide⟩ agr3r mix3r cv_RL_127 (K_X10_thrown (M := Nr) rfl) ok3_109 (by decide) (q := (RX10, TX10, 28)) rfl rfl ⟨rfl, rfl⟩ ⟨Nat.le_of_ble_eq_true rfl, Nat.le_of_ble_eq_true rfl⟩ hcs1 rfl rfl (Nat.le_of_ble_eq_true rfl) dL_law__733 ?_
  refine z_iload S dL_law__736 5 rfl ?_
  refine z_icmp_eq (tgt := 743) (A := true) (B := false) (x0 := true) S (if_pos rfl) dL_law__738 (by decide) (fun _ => ?_) (fun he => nomatch he)
  refine z_iload S dL_law__743 5 rfl ?_
  have hfin : Z X 3 p l e room_1 s m args below meth c (cells + 3) (slots + 18) Q 7 (mk3 Nc Nr g2) 760 [(0, .ref b), (1, .ref (X.2.2 1)), (2, .ref (X.2.2 109)), (3, .ref (X.2.2 108)), (4, .int i), (5, .int (gI Nr 109 0)), (6, .int v)] [] := by
    refine z_goto (tgt := 2391) S dL_law__760 (by decide) ?_
    refine z_lv (ks := [0, 1, 2, 3, 4]) rfl ?_
    exact kk g2
  by_cases ht : gI Nr 109 0 = 0
  · refine z_if_ne (tgt := 760) (A := true) (B := false) (x0 := true) S (if_pos ht) dL_law__745 (by decide) (fun he => nomatch he) (fun _ => ?_)
    refine z_aload_n S dL_law__748 rfl 3 rfl ?_
    refine z_iconst (v := 0) S dL_law__749 (by decide) ?_
    refine z_lald (i := 108) (N := 1) (A := some ()) (x0 := ()) S ok3_108 (by decide +kernel) (by decide) dL_law__750 (fun _ => ?_)
    refine z_iload S dL_law__751 6 rfl ?_
    refine z_i2l S dL_law__753 ?_
    refine z_lcmp S dL_law__754 ?_
    refine z_if_eq (tgt := 760) (A := true) (B := false) (x0 := true) S (if_pos (lgc_eq (hg2 ht))) dL_law__755 (by decide) (fun _ => ?_) (fun he => nomatch he)
    exact hfin
  · refine z_if_ne (tgt := 760) (A := true) (B := false) (x0 := false) S (if_neg ht) dL_law__745 (by decide) (fun _ => ?_) (fun he => nomatch he)
    exact hfin
set_option maxRecDepth 100000 in
set_option maxHeartbeats 4000000 in
theorem LC_10 {X : Cx} {p : Program} {l : Launch} {e : Env} {s : State} {m : MethodId} {args : Array Value} {below : List Frame} {meth : Method} {c : Code} {cells slots : Nat} {Q : State → Prop} {b L : Nat} {xs : Nat → Int32} (hl0 : l.stackTraces = false) (S : SB X 3 p s m args meth c cL_law_ 7 ret RL) (hNC : NCF s) (hX : va_X b L xs s s.heap) (hbl : b < s.heap.size) (hbA : ¬ AA X 3 s.heap.size b) {i : Int32} (hin1 : ibs (i + 1) L = true) (hin2 : ibs (i + 2) L = true) (hin3 : ibs (i + 3) L = true) (hin4 : ibs (i + 4) L = true) (hin5 : ibs (i + 5) L = true) (hcs0 : cells ≤ room_1.cells ∧ slots ≤ room_1.slots) (hcs1 : cells + 3 ≤ room_1.cells ∧ slots + 18 ≤ room_1.slots) {Mc Mr Nc Nr : Mm} {g : Nat → Int64} (hs : so_10 (xs (i + 1).toNatClampNeg) (xs (i + 2).toNatClampNeg) (xs (i + 3).toNatClampNeg) (xs (i + 4).toNatClampNeg) (xs (i + 5).toNatClampNeg) Mc Mr Nc Nr) (kk : ∀ g2, Z X 3 p l e room_1 s m args below meth c (cells + 3) (slots + 18) Q 7 (mk3 Nc Nr g2) 2391 [(0, .ref b), (1, .ref (X.2.2 1)), (2, .ref (X.2.2 109)), (3, .ref (X.2.2 108)), (4, .int i)] []) : Z X 3 p l e room_1 s m args below meth c cells slots Q 7 (mk3 Mc Mr g) 763 [(0, .ref b), (1, .ref (X.2.2 1)), (2, .ref (X.2.2 109)), (3, .ref (X.2.2 108)), (4, .int i)] [] := by
  obtain ⟨rx, v, he, hm, hok⟩ := hs
  by_cases hx2 : xs (i + 2).toNatClampNeg = 0
  · rw [show nb (xs (i + 2).toNatClampNeg) = 0 from if_pos hx2] at he hm
    refine z_aload_n S dL_law__763 rfl 1 rfl ?_
    refine z_aload_n S dL_law__764 rfl 0 rfl ?_
    refine z_iload S dL_law__765 4 rfl ?_
    refine z_iconst (v := 1) S dL_law__767 (by decide) ?_
    refine z_iadd S dL_law__768 ?_
    refine z_sld S hX hbl hbA hin1 dL_law__769 ?_
    refine z_aload_n S dL_law__770 rfl 0 rfl ?_
    refine z_iload S dL_law__771 4 rfl ?_
    refine z_iconst (v := 2) S dL_law__773 (by decide) ?_
    refine z_iadd S dL_law__774 ?_
    refine z_sld S hX hbl hbA hin2 dL_law__775 ?_
    refine z_if_eq (tgt := 783) (A := true) (B := false) (x0 := true) S (if_pos hx2) dL_law__776 (by decide) (fun _ => ?_) (fun he => nomatch he)
    refine z_iconst (v := 0) S dL_law__783 (by decide) ?_
    refine z_aload_n S dL_law__784 rfl 3 rfl ?_
    obtain ⟨g2, hw, hg2⟩ := okZ_wr g hok
    refine z_cW (As := [.ref (X.2.2 1), .int (xs (i + 1).toNatClampNeg), .int 0, .ref (X.2.2 108)]) (rest := []) S hNC cw_RL_153 (K_L_show (Mr := Mr) hl0 he hw) ⟨rfl, rfl⟩ ⟨Nat.le_of_ble_eq_true rfl, Nat.le_of_ble_eq_true rfl⟩ hcs1 rfl rfl (Nat.le_of_ble_eq_true rfl) dL_law__785 ?_
    refine z_istore (lv' := [(0, .ref b), (1, .ref (X.2.2 1)), (2, .ref (X.2.2 109)), (3, .ref (X.2.2 108)), (4, .int i), (5, .int (gI Nr 109 0))]) S [1, 2, 3, 4, 5, 0] dL_law__788 (by decide) rfl ?_
    refine z_aload_n S dL_law__790 rfl 2 rfl ?_
    refine z_aload_n S dL_law__791 rfl 0 rfl ?_
    refine z_iload S dL_law__792 4 rfl ?_
    refine z_iconst (v := 1) S dL_law__794 (by decide) ?_
    refine z_iadd S dL_law__795 ?_
    refine z_sld S hX hbl hbA hin1 dL_law__796 ?_
    refine z_aload_n S dL_law__797 rfl 0 rfl ?_
    refine z_iload S dL_law__798 4 rfl ?_
    refine z_iconst (v := 2) S dL_law__800 (by decide) ?_
    refine z_iadd S dL_law__801 ?_
    refine z_sld S hX hbl hbA hin2 dL_law__802 ?_
    refine z_if_eq (tgt := 810) (A := true) (B := false) (x0 := true) S (if_pos hx2) dL_law__803 (by decide) (fun _ => ?_) (fun he => nomatch he)
    refine z_iconst (v := 0) S dL_law__810 (by decide) ?_
    refine z_wVI (v := 1) (As := [.int (xs (i + 1).toNatClampNeg), .int 0]) (rest := []) S ⟨by decide, by decide⟩ agr3r mix3r cv_RL_156 (K_X10_show hm) ok3_109 (by decide) (q := (RX10, TX10, 28)) rfl rfl ⟨rfl, rfl⟩ ⟨Nat.le_of_ble_eq_true rfl, Nat.le_of_ble_eq_true rfl⟩ hcs1 rfl rfl (Nat.le_of_ble_eq_true rfl) dL_law__811 ?_
    refine z_istore (lv' := [(0, .ref b), (1, .ref (X.2.2 1)), (2, .ref (X.2.2 109)), (3, .ref (X.2.2 108)), (4, .int i), (5, .int (gI Nr 109 0)), (6, .int (bI v))]) S [1, 2, 3, 4, 5, 6, 0] dL_law__814 (by decide) rfl ?_
    refine z_aload_n S dL_law__816 rfl 2 rfl ?_
    refine z_wVI (v := 1) (As := []) (rest := []) S ⟨by decide, by decide⟩ agr3r mix3r cv_RL_127 (K_X10_thrown (M := Nr) rfl) ok3_109 (by decide) (q := (RX10, TX10, 28)) rfl rfl ⟨rfl, rfl⟩ ⟨Nat.le_of_ble_eq_true rfl, Nat.le_of_ble_eq_true rfl⟩ hcs1 rfl rfl (Nat.le_of_ble_eq_true rfl) dL_law__817 ?_
    refine z_iload S dL_law__820 5 rfl ?_
    refine z_icmp_eq (tgt := 827) (A := true) (B := false) (x0 := true) S (if_pos rfl) dL_law__822 (by decide) (fun _ => ?_) (fun he => nomatch he)
    refine z_iload S dL_law__827 5 rfl ?_
    have hfin : Z X 3 p l e room_1 s m args below meth c (cells + 3) (slots + 18) Q 7 (mk3 Nc Nr g2) 851 [(0, .ref b), (1, .ref (X.2.2 1)), (2, .ref (X.2.2 109)), (3, .ref (X.2.2 108)), (4, .int i), (5, .int (gI Nr 109 0)), (6, .int (bI v))] [] := by
      refine z_goto (tgt := 2391) S dL_law__851 (by decide) ?_
      refine z_lv (ks := [0, 1, 2, 3, 4]) rfl ?_
      exact kk g2
    by_cases ht : gI Nr 109 0 = 0
    · refine z_if_ne (tgt := 851) (A := true) (B := false) (x0 := true) S (if_pos ht) dL_law__829 (by decide) (fun he => nomatch he) (fun _ => ?_)
      refine z_aload_n S dL_law__832 rfl 3 rfl ?_
      refine z_iconst (v := 0) S dL_law__833 (by decide) ?_
      refine z_lald (i := 108) (N := 1) (A := some ()) (x0 := ()) S ok3_108 (by decide +kernel) (by decide) dL_law__834 (fun _ => ?_)
      refine z_iload S dL_law__835 6 rfl ?_
      cases v
      · refine z_if_eq (tgt := 844) (A := true) (B := false) (x0 := true) S (by decide) dL_law__837 (by decide) (fun _ => ?_) (fun he => nomatch he)
        refine z_lconst (v := 0) S dL_law__844 (by decide) ?_
        refine z_lcmp S dL_law__845 ?_
        refine z_if_eq (tgt := 851) (A := true) (B := false) (x0 := true) S (if_pos (lgc_eq (hg2 ht))) dL_law__846 (by decide) (fun _ => ?_) (fun he => nomatch he)
        exact hfin
      · refine z_if_eq (tgt := 844) (A := true) (B := false) (x0 := false) S (by decide) dL_law__837 (by decide) (fun he => nomatch he) (fun _ => ?_)
        refine z_lconst (v := 1) S dL_law__840 (by decide) ?_
        refine z_goto (tgt := 845) S dL_law__841 (by decide) ?_
        refine z_lcmp S dL_law__845 ?_
        refine z_if_eq (tgt := 851) (A := true) (B := false) (x0 := true) S (if_pos (lgc_eq (hg2 ht))) dL_law__846 (by decide) (fun _ => ?_) (fun he => nomatch he)
        exact hfin
    · refine z_if_ne (tgt := 851) (A := true) (B := false) (x0 := false) S (if_neg ht) dL_law__829 (by decide) (fun _ => ?_) (fun he => nomatch he)
      exact hfin
  · rw [show nb (xs (i + 2).toNatClampNeg) = 1 from if_neg hx2] at he hm
    refine z_aload_n S dL_law__763 rfl 1 rfl ?_
    refine z_aload_n S dL_law__764 rfl 0 rfl ?_
    refine z_iload S dL_law__765 4 rfl ?_
    refine z_iconst (v := 1) S dL_law__767 (by decide) ?_
    refine z_iadd S dL_law__768 ?_
    refine z_sld S hX hbl hbA hin1 dL_law__769 ?_
    refine z_aload_n S dL_law__770 rfl 0 rfl ?_
    refine z_iload S dL_law__771 4 rfl ?_
    refine z_iconst (v := 2) S dL_law__773 (by decide) ?_
    refine z_iadd S dL_law__774 ?_
    refine z_sld S hX hbl hbA hin2 dL_law__775 ?_
    refine z_if_eq (tgt := 783) (A := true) (B := false) (x0 := false) S (if_neg hx2) dL_law__776 (by decide) (fun he => nomatch he) (fun _ => ?_)
    refine z_iconst (v := 1) S dL_law__779 (by decide) ?_
    refine z_goto (tgt := 784) S dL_law__780 (by decide) ?_
    refine z_aload_n S dL_law__784 rfl 3 rfl ?_
    obtain ⟨g2, hw, hg2⟩ := okZ_wr g hok
    refine z_cW (As := [.ref (X.2.2 1), .int (xs (i + 1).toNatClampNeg), .int 1, .ref (X.2.2 108)]) (rest := []) S hNC cw_RL_153 (K_L_show (Mr := Mr) hl0 he hw) ⟨rfl, rfl⟩ ⟨Nat.le_of_ble_eq_true rfl, Nat.le_of_ble_eq_true rfl⟩ hcs1 rfl rfl (Nat.le_of_ble_eq_true rfl) dL_law__785 ?_
    refine z_istore (lv' := [(0, .ref b), (1, .ref (X.2.2 1)), (2, .ref (X.2.2 109)), (3, .ref (X.2.2 108)), (4, .int i), (5, .int (gI Nr 109 0))]) S [1, 2, 3, 4, 5, 0] dL_law__788 (by decide) rfl ?_
    refine z_aload_n S dL_law__790 rfl 2 rfl ?_
    refine z_aload_n S dL_law__791 rfl 0 rfl ?_
    refine z_iload S dL_law__792 4 rfl ?_
    refine z_iconst (v := 1) S dL_law__794 (by decide) ?_
    refine z_iadd S dL_law__795 ?_
    refine z_sld S hX hbl hbA hin1 dL_law__796 ?_
    refine z_aload_n S dL_law__797 rfl 0 rfl ?_
    refine z_iload S dL_law__798 4 rfl ?_
    refine z_iconst (v := 2) S dL_law__800 (by decide) ?_
    refine z_iadd S dL_law__801 ?_
    refine z_sld S hX hbl hbA hin2 dL_law__802 ?_
    refine z_if_eq (tgt := 810) (A := true) (B := false) (x0 := false) S (if_neg hx2) dL_law__803 (by decide) (fun he => nomatch he) (fun _ => ?_)
    refine z_iconst (v := 1) S dL_law__806 (by decide) ?_
    refine z_goto (tgt := 811) S dL_law__807 (by decide) ?_
    refine z_wVI (v := 1) (As := [.int (xs (i + 1).toNatClampNeg), .int 1]) (rest := []) S ⟨by decide, by decide⟩ agr3r mix3r cv_RL_156 (K_X10_show hm) ok3_109 (by decide) (q := (RX10, TX10, 28)) rfl rfl ⟨rfl, rfl⟩ ⟨Nat.le_of_ble_eq_true rfl, Nat.le_of_ble_eq_true rfl⟩ hcs1 rfl rfl (Nat.le_of_ble_eq_true rfl) dL_law__811 ?_
    refine z_istore (lv' := [(0, .ref b), (1, .ref (X.2.2 1)), (2, .ref (X.2.2 109)), (3, .ref (X.2.2 108)), (4, .int i), (5, .int (gI Nr 109 0)), (6, .int (bI v))]) S [1, 2, 3, 4, 5, 6, 0] dL_law__814 (by decide) rfl ?_
    refine z_aload_n S dL_law__816 rfl 2 rfl ?_
    refine z_wVI (v := 1) (As := []) (rest := []) S ⟨by decide, by decide⟩ agr3r mix3r cv_RL_127 (K_X10_thrown (M := Nr) rfl) ok3_109 (by decide) (q := (RX10, TX10, 28)) rfl rfl ⟨rfl, rfl⟩ ⟨Nat.le_of_ble_eq_true rfl, Nat.le_of_ble_eq_true rfl⟩ hcs1 rfl rfl (Nat.le_of_ble_eq_true rfl) dL_law__817 ?_
    refine z_iload S dL_law__820 5 rfl ?_
    refine z_icmp_eq (tgt := 827) (A := true) (B := false) (x0 := true) S (if_pos rfl) dL_law__822 (by decide) (fun _ => ?_) (fun he => nomatch he)
    refine z_iload S dL_law__827 5 rfl ?_
    have hfin : Z X 3 p l e room_1 s m args below meth c (cells + 3) (slots + 18) Q 7 (mk3 Nc Nr g2) 851 [(0, .ref b), (1, .ref (X.2.2 1)), (2, .ref (X.2.2 109)), (3, .ref (X.2.2 108)), (4, .int i), (5, .int (gI Nr 109 0)), (6, .int (bI v))] [] := by
      refine z_goto (tgt := 2391) S dL_law__851 (by decide) ?_
      refine z_lv (ks := [0, 1, 2, 3, 4]) rfl ?_
      exact kk g2
    by_cases ht : gI Nr 109 0 = 0
    · refine z_if_ne (tgt := 851) (A := true) (B := false) (x0 := true) S (if_pos ht) dL_law__829 (by decide) (fun he => nomatch he) (fun _ => ?_)
      refine z_aload_n S dL_law__832 rfl 3 rfl ?_
      refine z_iconst (v := 0) S dL_law__833 (by decide) ?_
      refine z_lald (i := 108) (N := 1) (A := some ()) (x0 := ()) S ok3_108 (by decide +kernel) (by decide) dL_law__834 (fun _ => ?_)
      refine z_iload S dL_law__835 6 rfl ?_
      cases v
      · refine z_if_eq (tgt := 844) (A := true) (B := false) (x0 := true) S (by decide) dL_law__837 (by decide) (fun _ => ?_) (fun he => nomatch he)
        refine z_lconst (v := 0) S dL_law__844 (by decide) ?_
        refine z_lcmp S dL_law__845 ?_
        refine z_if_eq (tgt := 851) (A := true) (B := false) (x0 := true) S (if_pos (lgc_eq (hg2 ht))) dL_law__846 (by decide) (fun _ => ?_) (fun he => nomatch he)
        exact hfin
      · refine z_if_eq (tgt := 844) (A := true) (B := false) (x0 := false) S (by decide) dL_law__837 (by decide) (fun he => nomatch he) (fun _ => ?_)
        refine z_lconst (v := 1) S dL_law__840 (by decide) ?_
        refine z_goto (tgt := 845) S dL_law__841 (by decide) ?_
        refine z_lcmp S dL_law__845 ?_
        refine z_if_eq (tgt := 851) (A := true) (B := false) (x0 := true) S (if_pos (lgc_eq (hg2 ht))) dL_law__846 (by decide) (fun _ => ?_) (fun he => nomatch he)
        exact hfin
    · refine z_if_ne (tgt := 851) (A := true) (B := false) (x0 := false) S (if_neg ht) dL_law__829 (by decide) (fun _ => ?_) (fun he => nomatch he)
      exact hfin
set_option maxRecDepth 100000 in
set_option maxHeartbeats 4000000 in
theorem LC_11 {X : Cx} {p : Program} {l : Launch} {e : Env} {s : State} {m : MethodId} {args : Array Value} {below : List Frame} {meth : Method} {c : Code} {cells slots : Nat} {Q : State → Prop} {b L : Nat} {xs : Nat → Int32} (hl0 : l.stackTraces = false) (S : SB X 3 p s m args meth c cL_law_ 7 ret RL) (hNC : NCF s) (hX : va_X b L xs s s.heap) (hbl : b < s.heap.size) (hbA : ¬ AA X 3 s.heap.size b) {i : Int32} (hin1 : ibs (i + 1) L = true) (hin2 : ibs (i + 2) L = true) (hin3 : ibs (i + 3) L = true) (hin4 : ibs (i + 4) L = true) (hin5 : ibs (i + 5) L = true) (hcs0 : cells ≤ room_1.cells ∧ slots ≤ room_1.slots) (hcs1 : cells + 3 ≤ room_1.cells ∧ slots + 18 ≤ room_1.slots) {Mc Mr Nc Nr : Mm} {g : Nat → Int64} (hs : so_11 (xs (i + 1).toNatClampNeg) (xs (i + 2).toNatClampNeg) (xs (i + 3).toNatClampNeg) (xs (i + 4).toNatClampNeg) (xs (i + 5).toNatClampNeg) Mc Mr Nc Nr) (kk : ∀ g2, Z X 3 p l e room_1 s m args below meth c (cells + 3) (slots + 18) Q 7 (mk3 Nc Nr g2) 2391 [(0, .ref b), (1, .ref (X.2.2 1)), (2, .ref (X.2.2 109)), (3, .ref (X.2.2 108)), (4, .int i)] []) : Z X 3 p l e room_1 s m args below meth c cells slots Q 7 (mk3 Mc Mr g) 854 [(0, .ref b), (1, .ref (X.2.2 1)), (2, .ref (X.2.2 109)), (3, .ref (X.2.2 108)), (4, .int i)] [] := by
  obtain ⟨rx, v, he, hm, hok⟩ := hs
  skip
  refine z_aload_n S dL_law__854 rfl 1 rfl ?_
  refine z_aload_n S dL_law__855 rfl 0 rfl ?_
  refine z_iload S dL_law__856 4 rfl ?_
  refine z_iconst (v := 1) S dL_law__858 (by decide) ?_
  refine z_iadd S dL_law__859 ?_
  refine z_sld S hX hbl hbA hin1 dL_law__860 ?_
  refine z_aload_n S dL_law__861 rfl 0 rfl ?_
  refine z_iload S dL_law__862 4 rfl ?_
  refine z_iconst (v := 2) S dL_law__864 (by decide) ?_
  refine z_iadd S dL_law__865 ?_
  refine z_sld S hX hbl hbA hin2 dL_law__866 ?_
  refine z_aload_n S dL_law__867 rfl 3 rfl ?_
  obtain ⟨g2, hw, hg2⟩ := okI_wr g hok
  refine z_cW (As := [.ref (X.2.2 1), .int (xs (i + 1).toNatClampNeg), .int (xs (i + 2).toNatClampNeg), .ref (X.2.2 108)]) (rest := []) S hNC cw_RL_157 (K_L_clean (Mr := Mr) hl0 he hw) ⟨rfl, rfl⟩ ⟨Nat.le_of_ble_eq_true rfl, Nat.le_of_ble_eq_true rfl⟩ hcs1 rfl rfl (Nat.le_of_ble_eq_true rfl) dL_law__868 ?_
  refine z_istore (lv' := [(0, .ref b), (1, .ref (X.2.2 1)), (2, .ref (X.2.2 109)), (3, .ref (X.2.2 108)), (4, .int i), (5, .int (gI Nr 109 0))]) S [1, 2, 3, 4, 5, 0] dL_law__871 (by decide) rfl ?_
  refine z_aload_n S dL_law__873 rfl 2 rfl ?_
  refine z_aload_n S dL_law__874 rfl 0 rfl ?_
  refine z_iload S dL_law__875 4 rfl ?_
  refine z_iconst (v := 1) S dL_law__877 (by decide) ?_
  refine z_iadd S dL_law__878 ?_
  refine z_sld S hX hbl hbA hin1 dL_law__879 ?_
  refine z_aload_n S dL_law__880 rfl 0 rfl ?_
  refine z_iload S dL_law__881 4 rfl ?_
  refine z_iconst (v := 2) S dL_law__883 (by decide) ?_
  refine z_iadd S dL_law__884 ?_
  refine z_sld S hX hbl hbA hin2 dL_law__885 ?_
  refine z_wVI (v := 1) (As := [.int (xs (i + 1).toNatClampNeg), .int (xs (i + 2).toNatClampNeg)]) (rest := []) S ⟨by decide, by decide⟩ agr3r mix3r cv_RL_159 (K_X10_clean hm) ok3_109 (by decide) (q := (RX10, TX10, 28)) rfl rfl ⟨rfl, rfl⟩ ⟨Nat.le_of_ble_eq_true rfl, Nat.le_of_ble_eq_true rfl⟩ hcs1 rfl rfl (Nat.le_of_ble_eq_true rfl) dL_law__886 ?_
  refine z_istore (lv' := [(0, .ref b), (1, .ref (X.2.2 1)), (2, .ref (X.2.2 109)), (3, .ref (X.2.2 108)), (4, .int i), (5, .int (gI Nr 109 0)), (6, .int v)]) S [1, 2, 3, 4, 5, 6, 0] dL_law__889 (by decide) rfl ?_
  refine z_aload_n S dL_law__891 rfl 2 rfl ?_
  refine z_wVI (v := 1) (As := []) (rest := []) S ⟨by decide, by decide⟩ agr3r mix3r cv_RL_127 (K_X10_thrown (M := Nr) rfl) ok3_109 (by decide) (q := (RX10, TX10, 28)) rfl rfl ⟨rfl, rfl⟩ ⟨Nat.le_of_ble_eq_true rfl, Nat.le_of_ble_eq_true rfl⟩ hcs1 rfl rfl (Nat.le_of_ble_eq_true rfl) dL_law__892 ?_
  refine z_iload S dL_law__895 5 rfl ?_
  refine z_icmp_eq (tgt := 902) (A := true) (B := false) (x0 := true) S (if_pos rfl) dL_law__897 (by decide) (fun _ => ?_) (fun he => nomatch he)
  refine z_iload S dL_law__902 5 rfl ?_
  have hfin : Z X 3 p l e room_1 s m args below meth c (cells + 3) (slots + 18) Q 7 (mk3 Nc Nr g2) 919 [(0, .ref b), (1, .ref (X.2.2 1)), (2, .ref (X.2.2 109)), (3, .ref (X.2.2 108)), (4, .int i), (5, .int (gI Nr 109 0)), (6, .int v)] [] := by
    refine z_goto (tgt := 2391) S dL_law__919 (by decide) ?_
    refine z_lv (ks := [0, 1, 2, 3, 4]) rfl ?_
    exact kk g2
  by_cases ht : gI Nr 109 0 = 0
  · refine z_if_ne (tgt := 919) (A := true) (B := false) (x0 := true) S (if_pos ht) dL_law__904 (by decide) (fun he => nomatch he) (fun _ => ?_)
    refine z_aload_n S dL_law__907 rfl 3 rfl ?_
    refine z_iconst (v := 0) S dL_law__908 (by decide) ?_
    refine z_lald (i := 108) (N := 1) (A := some ()) (x0 := ()) S ok3_108 (by decide +kernel) (by decide) dL_law__909 (fun _ => ?_)
    refine z_iload S dL_law__910 6 rfl ?_
    refine z_i2l S dL_law__912 ?_
    refine z_lcmp S dL_law__913 ?_
    refine z_if_eq (tgt := 919) (A := true) (B := false) (x0 := true) S (if_pos (lgc_eq (hg2 ht))) dL_law__914 (by decide) (fun _ => ?_) (fun he => nomatch he)
    exact hfin
  · refine z_if_ne (tgt := 919) (A := true) (B := false) (x0 := false) S (if_neg ht) dL_law__904 (by decide) (fun _ => ?_) (fun he => nomatch he)
    exact hfin
set_option maxRecDepth 100000 in
set_option maxHeartbeats 4000000 in
theorem LC_12 {X : Cx} {p : Program} {l : Launch} {e : Env} {s : State} {m : MethodId} {args : Array Value} {below : List Frame} {meth : Method} {c : Code} {cells slots : Nat} {Q : State → Prop} {b L : Nat} {xs : Nat → Int32} (hl0 : l.stackTraces = false) (S : SB X 3 p s m args meth c cL_law_ 7 ret RL) (hNC : NCF s) (hX : va_X b L xs s s.heap) (hbl : b < s.heap.size) (hbA : ¬ AA X 3 s.heap.size b) {i : Int32} (hin1 : ibs (i + 1) L = true) (hin2 : ibs (i + 2) L = true) (hin3 : ibs (i + 3) L = true) (hin4 : ibs (i + 4) L = true) (hin5 : ibs (i + 5) L = true) (hcs0 : cells ≤ room_1.cells ∧ slots ≤ room_1.slots) (hcs1 : cells + 3 ≤ room_1.cells ∧ slots + 18 ≤ room_1.slots) {Mc Mr Nc Nr : Mm} {g : Nat → Int64} (hs : so_12 (xs (i + 1).toNatClampNeg) (xs (i + 2).toNatClampNeg) (xs (i + 3).toNatClampNeg) (xs (i + 4).toNatClampNeg) (xs (i + 5).toNatClampNeg) Mc Mr Nc Nr) (kk : ∀ g2, Z X 3 p l e room_1 s m args below meth c (cells + 3) (slots + 18) Q 7 (mk3 Nc Nr g2) 2391 [(0, .ref b), (1, .ref (X.2.2 1)), (2, .ref (X.2.2 109)), (3, .ref (X.2.2 108)), (4, .int i)] []) : Z X 3 p l e room_1 s m args below meth c cells slots Q 7 (mk3 Mc Mr g) 922 [(0, .ref b), (1, .ref (X.2.2 1)), (2, .ref (X.2.2 109)), (3, .ref (X.2.2 108)), (4, .int i)] [] := by
  obtain ⟨rx, v, he, hm, hok⟩ := hs
  by_cases hx3 : xs (i + 3).toNatClampNeg = 0
  · rw [show nb (xs (i + 3).toNatClampNeg) = 0 from if_pos hx3] at he hm
    refine z_aload_n S dL_law__922 rfl 1 rfl ?_
    refine z_aload_n S dL_law__923 rfl 0 rfl ?_
    refine z_iload S dL_law__924 4 rfl ?_
    refine z_iconst (v := 1) S dL_law__926 (by decide) ?_
    refine z_iadd S dL_law__927 ?_
    refine z_sld S hX hbl hbA hin1 dL_law__928 ?_
    refine z_aload_n S dL_law__929 rfl 0 rfl ?_
    refine z_iload S dL_law__930 4 rfl ?_
    refine z_iconst (v := 2) S dL_law__932 (by decide) ?_
    refine z_iadd S dL_law__933 ?_
    refine z_sld S hX hbl hbA hin2 dL_law__934 ?_
    refine z_aload_n S dL_law__935 rfl 0 rfl ?_
    refine z_iload S dL_law__936 4 rfl ?_
    refine z_iconst (v := 3) S dL_law__938 (by decide) ?_
    refine z_iadd S dL_law__939 ?_
    refine z_sld S hX hbl hbA hin3 dL_law__940 ?_
    refine z_if_eq (tgt := 948) (A := true) (B := false) (x0 := true) S (if_pos hx3) dL_law__941 (by decide) (fun _ => ?_) (fun he => nomatch he)
    refine z_iconst (v := 0) S dL_law__948 (by decide) ?_
    refine z_aload_n S dL_law__949 rfl 3 rfl ?_
    obtain ⟨g2, hw, hg2⟩ := okZ_wr g hok
    refine z_cW (As := [.ref (X.2.2 1), .int (xs (i + 1).toNatClampNeg), .int (xs (i + 2).toNatClampNeg), .int 0, .ref (X.2.2 108)]) (rest := []) S hNC cw_RL_160 (K_L_mark (Mr := Mr) hl0 he hw) ⟨rfl, rfl⟩ ⟨Nat.le_of_ble_eq_true rfl, Nat.le_of_ble_eq_true rfl⟩ hcs1 rfl rfl (Nat.le_of_ble_eq_true rfl) dL_law__950 ?_
    refine z_istore (lv' := [(0, .ref b), (1, .ref (X.2.2 1)), (2, .ref (X.2.2 109)), (3, .ref (X.2.2 108)), (4, .int i), (5, .int (gI Nr 109 0))]) S [1, 2, 3, 4, 5, 0] dL_law__953 (by decide) rfl ?_
    refine z_aload_n S dL_law__955 rfl 2 rfl ?_
    refine z_aload_n S dL_law__956 rfl 0 rfl ?_
    refine z_iload S dL_law__957 4 rfl ?_
    refine z_iconst (v := 1) S dL_law__959 (by decide) ?_
    refine z_iadd S dL_law__960 ?_
    refine z_sld S hX hbl hbA hin1 dL_law__961 ?_
    refine z_aload_n S dL_law__962 rfl 0 rfl ?_
    refine z_iload S dL_law__963 4 rfl ?_
    refine z_iconst (v := 2) S dL_law__965 (by decide) ?_
    refine z_iadd S dL_law__966 ?_
    refine z_sld S hX hbl hbA hin2 dL_law__967 ?_
    refine z_aload_n S dL_law__968 rfl 0 rfl ?_
    refine z_iload S dL_law__969 4 rfl ?_
    refine z_iconst (v := 3) S dL_law__971 (by decide) ?_
    refine z_iadd S dL_law__972 ?_
    refine z_sld S hX hbl hbA hin3 dL_law__973 ?_
    refine z_if_eq (tgt := 981) (A := true) (B := false) (x0 := true) S (if_pos hx3) dL_law__974 (by decide) (fun _ => ?_) (fun he => nomatch he)
    refine z_iconst (v := 0) S dL_law__981 (by decide) ?_
    refine z_wVI (v := 1) (As := [.int (xs (i + 1).toNatClampNeg), .int (xs (i + 2).toNatClampNeg), .int 0]) (rest := []) S ⟨by decide, by decide⟩ agr3r mix3r cv_RL_163 (K_X10_mark hm) ok3_109 (by decide) (q := (RX10, TX10, 28)) rfl rfl ⟨rfl, rfl⟩ ⟨Nat.le_of_ble_eq_true rfl, Nat.le_of_ble_eq_true rfl⟩ hcs1 rfl rfl (Nat.le_of_ble_eq_true rfl) dL_law__982 ?_
    refine z_istore (lv' := [(0, .ref b), (1, .ref (X.2.2 1)), (2, .ref (X.2.2 109)), (3, .ref (X.2.2 108)), (4, .int i), (5, .int (gI Nr 109 0)), (6, .int (bI v))]) S [1, 2, 3, 4, 5, 6, 0] dL_law__985 (by decide) rfl ?_
    refine z_aload_n S dL_law__987 rfl 2 rfl ?_
    refine z_wVI (v := 1) (As := []) (rest := []) S ⟨by decide, by decide⟩ agr3r mix3r cv_RL_127 (K_X10_thrown (M := Nr) rfl) ok3_109 (by decide) (q := (RX10, TX10, 28)) rfl rfl ⟨rfl, rfl⟩ ⟨Nat.le_of_ble_eq_true rfl, Nat.le_of_ble_eq_true rfl⟩ hcs1 rfl rfl (Nat.le_of_ble_eq_true rfl) dL_law__988 ?_
    refine z_iload S dL_law__991 5 rfl ?_
    refine z_icmp_eq (tgt := 998) (A := true) (B := false) (x0 := true) S (if_pos rfl) dL_law__993 (by decide) (fun _ => ?_) (fun he => nomatch he)
    refine z_iload S dL_law__998 5 rfl ?_
    have hfin : Z X 3 p l e room_1 s m args below meth c (cells + 3) (slots + 18) Q 7 (mk3 Nc Nr g2) 1022 [(0, .ref b), (1, .ref (X.2.2 1)), (2, .ref (X.2.2 109)), (3, .ref (X.2.2 108)), (4, .int i), (5, .int (gI Nr 109 0)), (6, .int (bI v))] [] := by
      refine z_goto (tgt := 2391) S dL_law__1022 (by decide) ?_
      refine z_lv (ks := [0, 1, 2, 3, 4]) rfl ?_
      exact kk g2
    by_cases ht : gI Nr 109 0 = 0
    · refine z_if_ne (tgt := 1022) (A := true) (B := false) (x0 := true) S (if_pos ht) dL_law__1000 (by decide) (fun he => nomatch he) (fun _ => ?_)
      refine z_aload_n S dL_law__1003 rfl 3 rfl ?_
      refine z_iconst (v := 0) S dL_law__1004 (by decide) ?_
      refine z_lald (i := 108) (N := 1) (A := some ()) (x0 := ()) S ok3_108 (by decide +kernel) (by decide) dL_law__1005 (fun _ => ?_)
      refine z_iload S dL_law__1006 6 rfl ?_
      cases v
      · refine z_if_eq (tgt := 1015) (A := true) (B := false) (x0 := true) S (by decide) dL_law__1008 (by decide) (fun _ => ?_) (fun he => nomatch he)
        refine z_lconst (v := 0) S dL_law__1015 (by decide) ?_
        refine z_lcmp S dL_law__1016 ?_
        refine z_if_eq (tgt := 1022) (A := true) (B := false) (x0 := true) S (if_pos (lgc_eq (hg2 ht))) dL_law__1017 (by decide) (fun _ => ?_) (fun he => nomatch he)
        exact hfin
      · refine z_if_eq (tgt := 1015) (A := true) (B := false) (x0 := false) S (by decide) dL_law__1008 (by decide) (fun he => nomatch he) (fun _ => ?_)
        refine z_lconst (v := 1) S dL_law__1011 (by decide) ?_
        refine z_goto (tgt := 1016) S dL_law__1012 (by decide) ?_
        refine z_lcmp S dL_law__1016 ?_
        refine z_if_eq (tgt := 1022) (A := true) (B := false) (x0 := true) S (if_pos (lgc_eq (hg2 ht))) dL_law__1017 (by decide) (fun _ => ?_) (fun he => nomatch he)
        exact hfin
    · refine z_if_ne (tgt := 1022) (A := true) (B := false) (x0 := false) S (if_neg ht) dL_law__1000 (by decide) (fun _ => ?_) (fun he => nomatch he)
      exact hfin
  · rw [show nb (xs (i + 3).toNatClampNeg) = 1 from if_neg hx3] at he hm
    refine z_aload_n S dL_law__922 rfl 1 rfl ?_
    refine z_aload_n S dL_law__923 rfl 0 rfl ?_
    refine z_iload S dL_law__924 4 rfl ?_
    refine z_iconst (v := 1) S dL_law__926 (by decide) ?_
    refine z_iadd S dL_law__927 ?_
    refine z_sld S hX hbl hbA hin1 dL_law__928 ?_
    refine z_aload_n S dL_law__929 rfl 0 rfl ?_
    refine z_iload S dL_law__930 4 rfl ?_
    refine z_iconst (v := 2) S dL_law__932 (by decide) ?_
    refine z_iadd S dL_law__933 ?_
    refine z_sld S hX hbl hbA hin2 dL_law__934 ?_
    refine z_aload_n S dL_law__935 rfl 0 rfl ?_
    refine z_iload S dL_law__936 4 rfl ?_
    refine z_iconst (v := 3) S dL_law__938 (by decide) ?_
    refine z_iadd S dL_law__939 ?_
    refine z_sld S hX hbl hbA hin3 dL_law__940 ?_
    refine z_if_eq (tgt := 948) (A := true) (B := false) (x0 := false) S (if_neg hx3) dL_law__941 (by decide) (fun he => nomatch he) (fun _ => ?_)
    refine z_iconst (v := 1) S dL_law__944 (by decide) ?_
    refine z_goto (tgt := 949) S dL_law__945 (by decide) ?_
    refine z_aload_n S dL_law__949 rfl 3 rfl ?_
    obtain ⟨g2, hw, hg2⟩ := okZ_wr g hok
    refine z_cW (As := [.ref (X.2.2 1), .int (xs (i + 1).toNatClampNeg), .int (xs (i + 2).toNatClampNeg), .int 1, .ref (X.2.2 108)]) (rest := []) S hNC cw_RL_160 (K_L_mark (Mr := Mr) hl0 he hw) ⟨rfl, rfl⟩ ⟨Nat.le_of_ble_eq_true rfl, Nat.le_of_ble_eq_true rfl⟩ hcs1 rfl rfl (Nat.le_of_ble_eq_true rfl) dL_law__950 ?_
    refine z_istore (lv' := [(0, .ref b), (1, .ref (X.2.2 1)), (2, .ref (X.2.2 109)), (3, .ref (X.2.2 108)), (4, .int i), (5, .int (gI Nr 109 0))]) S [1, 2, 3, 4, 5, 0] dL_law__953 (by decide) rfl ?_
    refine z_aload_n S dL_law__955 rfl 2 rfl ?_
    refine z_aload_n S dL_law__956 rfl 0 rfl ?_
    refine z_iload S dL_law__957 4 rfl ?_
    refine z_iconst (v := 1) S dL_law__959 (by decide) ?_
    refine z_iadd S dL_law__960 ?_
    refine z_sld S hX hbl hbA hin1 dL_law__961 ?_
    refine z_aload_n S dL_law__962 rfl 0 rfl ?_
    refine z_iload S dL_law__963 4 rfl ?_
    refine z_iconst (v := 2) S dL_law__965 (by decide) ?_
    refine z_iadd S dL_law__966 ?_
    refine z_sld S hX hbl hbA hin2 dL_law__967 ?_
    refine z_aload_n S dL_law__968 rfl 0 rfl ?_
    refine z_iload S dL_law__969 4 rfl ?_
    refine z_iconst (v := 3) S dL_law__971 (by decide) ?_
    refine z_iadd S dL_law__972 ?_
    refine z_sld S hX hbl hbA hin3 dL_law__973 ?_
    refine z_if_eq (tgt := 981) (A := true) (B := false) (x0 := false) S (if_neg hx3) dL_law__974 (by decide) (fun he => nomatch he) (fun _ => ?_)
    refine z_iconst (v := 1) S dL_law__977 (by decide) ?_
    refine z_goto (tgt := 982) S dL_law__978 (by decide) ?_
    refine z_wVI (v := 1) (As := [.int (xs (i + 1).toNatClampNeg), .int (xs (i + 2).toNatClampNeg), .int 1]) (rest := []) S ⟨by decide, by decide⟩ agr3r mix3r cv_RL_163 (K_X10_mark hm) ok3_109 (by decide) (q := (RX10, TX10, 28)) rfl rfl ⟨rfl, rfl⟩ ⟨Nat.le_of_ble_eq_true rfl, Nat.le_of_ble_eq_true rfl⟩ hcs1 rfl rfl (Nat.le_of_ble_eq_true rfl) dL_law__982 ?_
    refine z_istore (lv' := [(0, .ref b), (1, .ref (X.2.2 1)), (2, .ref (X.2.2 109)), (3, .ref (X.2.2 108)), (4, .int i), (5, .int (gI Nr 109 0)), (6, .int (bI v))]) S [1, 2, 3, 4, 5, 6, 0] dL_law__985 (by decide) rfl ?_
    refine z_aload_n S dL_law__987 rfl 2 rfl ?_
    refine z_wVI (v := 1) (As := []) (rest := []) S ⟨by decide, by decide⟩ agr3r mix3r cv_RL_127 (K_X10_thrown (M := Nr) rfl) ok3_109 (by decide) (q := (RX10, TX10, 28)) rfl rfl ⟨rfl, rfl⟩ ⟨Nat.le_of_ble_eq_true rfl, Nat.le_of_ble_eq_true rfl⟩ hcs1 rfl rfl (Nat.le_of_ble_eq_true rfl) dL_law__988 ?_
    refine z_iload S dL_law__991 5 rfl ?_
    refine z_icmp_eq (tgt := 998) (A := true) (B := false) (x0 := true) S (if_pos rfl) dL_law__993 (by decide) (fun _ => ?_) (fun he => nomatch he)
    refine z_iload S dL_law__998 5 rfl ?_
    have hfin : Z X 3 p l e room_1 s m args below meth c (cells + 3) (slots + 18) Q 7 (mk3 Nc Nr g2) 1022 [(0, .ref b), (1, .ref (X.2.2 1)), (2, .ref (X.2.2 109)), (3, .ref (X.2.2 108)), (4, .int i), (5, .int (gI Nr 109 0)), (6, .int (bI v))] [] := by
      refine z_goto (tgt := 2391) S dL_law__1022 (by decide) ?_
      refine z_lv (ks := [0, 1, 2, 3, 4]) rfl ?_
      exact kk g2
    by_cases ht : gI Nr 109 0 = 0
    · refine z_if_ne (tgt := 1022) (A := true) (B := false) (x0 := true) S (if_pos ht) dL_law__1000 (by decide) (fun he => nomatch he) (fun _ => ?_)
      refine z_aload_n S dL_law__1003 rfl 3 rfl ?_
      refine z_iconst (v := 0) S dL_law__1004 (by decide) ?_
      refine z_lald (i := 108) (N := 1) (A := some ()) (x0 := ()) S ok3_108 (by decide +kernel) (by decide) dL_law__1005 (fun _ => ?_)
      refine z_iload S dL_law__1006 6 rfl ?_
      cases v
      · refine z_if_eq (tgt := 1015) (A := true) (B := false) (x0 := true) S (by decide) dL_law__1008 (by decide) (fun _ => ?_) (fun he => nomatch he)
        refine z_lconst (v := 0) S dL_law__1015 (by decide) ?_
        refine z_lcmp S dL_law__1016 ?_
        refine z_if_eq (tgt := 1022) (A := true) (B := false) (x0 := true) S (if_pos (lgc_eq (hg2 ht))) dL_law__1017 (by decide) (fun _ => ?_) (fun he => nomatch he)
        exact hfin
      · refine z_if_eq (tgt := 1015) (A := true) (B := false) (x0 := false) S (by decide) dL_law__1008 (by decide) (fun he => nomatch he) (fun _ => ?_)
        refine z_lconst (v := 1) S dL_law__1011 (by decide) ?_
        refine z_goto (tgt := 1016) S dL_law__1012 (by decide) ?_
        refine z_lcmp S dL_law__1016 ?_
        refine z_if_eq (tgt := 1022) (A := true) (B := false) (x0 := true) S (if_pos (lgc_eq (hg2 ht))) dL_law__1017 (by decide) (fun _ => ?_) (fun he => nomatch he)
        exact hfin
    · refine z_if_ne (tgt := 1022) (A := true) (B := false) (x0 := false) S (if_neg ht) dL_law__1000 (by decide) (fun _ => ?_) (fun he => nomatch he)
      exact hfin
set_option maxRecDepth 100000 in
set_option maxHeartbeats 4000000 in
theorem LC_13 {X : Cx} {p : Program} {l : Launch} {e : Env} {s : State} {m : MethodId} {args : Array Value} {below : List Frame} {meth : Method} {c : Code} {cells slots : Nat} {Q : State → Prop} {b L : Nat} {xs : Nat → Int32} (hl0 : l.stackTraces = false) (S : SB X 3 p s m args meth c cL_law_ 7 ret RL) (hNC : NCF s) (hX : va_X b L xs s s.heap) (hbl : b < s.heap.size) (hbA : ¬ AA X 3 s.heap.size b) {i : Int32} (hin1 : ibs (i + 1) L = true) (hin2 : ibs (i + 2) L = true) (hin3 : ibs (i + 3) L = true) (hin4 : ibs (i + 4) L = true) (hin5 : ibs (i + 5) L = true) (hcs0 : cells ≤ room_1.cells ∧ slots ≤ room_1.slots) (hcs1 : cells + 3 ≤ room_1.cells ∧ slots + 18 ≤ room_1.slots) {Mc Mr Nc Nr : Mm} {g : Nat → Int64} (hs : so_13 (xs (i + 1).toNatClampNeg) (xs (i + 2).toNatClampNeg) (xs (i + 3).toNatClampNeg) (xs (i + 4).toNatClampNeg) (xs (i + 5).toNatClampNeg) Mc Mr Nc Nr) (kk : ∀ g2, Z X 3 p l e room_1 s m args below meth c (cells + 3) (slots + 18) Q 7 (mk3 Nc Nr g2) 2391 [(0, .ref b), (1, .ref (X.2.2 1)), (2, .ref (X.2.2 109)), (3, .ref (X.2.2 108)), (4, .int i)] []) : Z X 3 p l e room_1 s m args below meth c cells slots Q 7 (mk3 Mc Mr g) 1025 [(0, .ref b), (1, .ref (X.2.2 1)), (2, .ref (X.2.2 109)), (3, .ref (X.2.2 108)), (4, .int i)] [] := by
  obtain ⟨rx, he, hm, hok⟩ := hs
  skip
  refine z_aload_n S dL_law__1025 rfl 1 rfl ?_
  refine z_aload_n S dL_law__1026 rfl 0 rfl ?_
  refine z_iload S dL_law__1027 4 rfl ?_
  refine z_iconst (v := 1) S dL_law__1029 (by decide) ?_
  refine z_iadd S dL_law__1030 ?_
  refine z_sld S hX hbl hbA hin1 dL_law__1031 ?_
  refine z_aload_n S dL_law__1032 rfl 0 rfl ?_
  refine z_iload S dL_law__1033 4 rfl ?_
  refine z_iconst (v := 2) S dL_law__1035 (by decide) ?_
  refine z_iadd S dL_law__1036 ?_
  refine z_sld S hX hbl hbA hin2 dL_law__1037 ?_
  obtain ⟨g2, hw, hg2⟩ := okV_wr g hok
  refine z_cW (As := [.ref (X.2.2 1), .int (xs (i + 1).toNatClampNeg), .int (xs (i + 2).toNatClampNeg)]) (rest := []) S hNC cw_RL_164 (K_L_trade (Mr := Mr) hl0 he hw) ⟨rfl, rfl⟩ ⟨Nat.le_of_ble_eq_true rfl, Nat.le_of_ble_eq_true rfl⟩ hcs1 rfl rfl (Nat.le_of_ble_eq_true rfl) dL_law__1038 ?_
  refine z_istore (lv' := [(0, .ref b), (1, .ref (X.2.2 1)), (2, .ref (X.2.2 109)), (3, .ref (X.2.2 108)), (4, .int i), (5, .int (gI Nr 109 0))]) S [1, 2, 3, 4, 5, 0] dL_law__1041 (by decide) rfl ?_
  refine z_aload_n S dL_law__1043 rfl 2 rfl ?_
  refine z_aload_n S dL_law__1044 rfl 0 rfl ?_
  refine z_iload S dL_law__1045 4 rfl ?_
  refine z_iconst (v := 1) S dL_law__1047 (by decide) ?_
  refine z_iadd S dL_law__1048 ?_
  refine z_sld S hX hbl hbA hin1 dL_law__1049 ?_
  refine z_aload_n S dL_law__1050 rfl 0 rfl ?_
  refine z_iload S dL_law__1051 4 rfl ?_
  refine z_iconst (v := 2) S dL_law__1053 (by decide) ?_
  refine z_iadd S dL_law__1054 ?_
  refine z_sld S hX hbl hbA hin2 dL_law__1055 ?_
  refine z_wVV (v := 1) (As := [.int (xs (i + 1).toNatClampNeg), .int (xs (i + 2).toNatClampNeg)]) (rest := []) S ⟨by decide, by decide⟩ agr3r mix3r cv_RL_167 (K_X10_trade hm) ok3_109 (by decide) (q := (RX10, TX10, 28)) rfl rfl ⟨rfl, rfl⟩ ⟨Nat.le_of_ble_eq_true rfl, Nat.le_of_ble_eq_true rfl⟩ hcs1 rfl rfl (Nat.le_of_ble_eq_true rfl) dL_law__1056 ?_
  refine z_aload_n S dL_law__1059 rfl 2 rfl ?_
  refine z_wVI (v := 1) (As := []) (rest := []) S ⟨by decide, by decide⟩ agr3r mix3r cv_RL_127 (K_X10_thrown (M := Nr) rfl) ok3_109 (by decide) (q := (RX10, TX10, 28)) rfl rfl ⟨rfl, rfl⟩ ⟨Nat.le_of_ble_eq_true rfl, Nat.le_of_ble_eq_true rfl⟩ hcs1 rfl rfl (Nat.le_of_ble_eq_true rfl) dL_law__1060 ?_
  refine z_iload S dL_law__1063 5 rfl ?_
  refine z_icmp_eq (tgt := 1070) (A := true) (B := false) (x0 := true) S (if_pos rfl) dL_law__1065 (by decide) (fun _ => ?_) (fun he => nomatch he)
  refine z_goto (tgt := 2391) S dL_law__1070 (by decide) ?_
  refine z_lv (ks := [0, 1, 2, 3, 4]) rfl ?_
  exact kk g2
set_option maxRecDepth 100000 in
set_option maxHeartbeats 4000000 in
theorem LC_14 {X : Cx} {p : Program} {l : Launch} {e : Env} {s : State} {m : MethodId} {args : Array Value} {below : List Frame} {meth : Method} {c : Code} {cells slots : Nat} {Q : State → Prop} {b L : Nat} {xs : Nat → Int32} (hl0 : l.stackTraces = false) (S : SB X 3 p s m args meth c cL_law_ 7 ret RL) (hNC : NCF s) (hX : va_X b L xs s s.heap) (hbl : b < s.heap.size) (hbA : ¬ AA X 3 s.heap.size b) {i : Int32} (hin1 : ibs (i + 1) L = true) (hin2 : ibs (i + 2) L = true) (hin3 : ibs (i + 3) L = true) (hin4 : ibs (i + 4) L = true) (hin5 : ibs (i + 5) L = true) (hcs0 : cells ≤ room_1.cells ∧ slots ≤ room_1.slots) (hcs1 : cells + 3 ≤ room_1.cells ∧ slots + 18 ≤ room_1.slots) {Mc Mr Nc Nr : Mm} {g : Nat → Int64} (hs : so_14 (xs (i + 1).toNatClampNeg) (xs (i + 2).toNatClampNeg) (xs (i + 3).toNatClampNeg) (xs (i + 4).toNatClampNeg) (xs (i + 5).toNatClampNeg) Mc Mr Nc Nr) (kk : ∀ g2, Z X 3 p l e room_1 s m args below meth c (cells + 3) (slots + 18) Q 7 (mk3 Nc Nr g2) 2391 [(0, .ref b), (1, .ref (X.2.2 1)), (2, .ref (X.2.2 109)), (3, .ref (X.2.2 108)), (4, .int i)] []) : Z X 3 p l e room_1 s m args below meth c cells slots Q 7 (mk3 Mc Mr g) 1073 [(0, .ref b), (1, .ref (X.2.2 1)), (2, .ref (X.2.2 109)), (3, .ref (X.2.2 108)), (4, .int i)] [] := by
  obtain ⟨rx, v, he, hm, hok⟩ := hs
  skip
  refine z_aload_n S dL_law__1073 rfl 1 rfl ?_
  refine z_aload_n S dL_law__1074 rfl 0 rfl ?_
  refine z_iload S dL_law__1075 4 rfl ?_
  refine z_iconst (v := 1) S dL_law__1077 (by decide) ?_
  refine z_iadd S dL_law__1078 ?_
  refine z_sld S hX hbl hbA hin1 dL_law__1079 ?_
  refine z_aload_n S dL_law__1080 rfl 3 rfl ?_
  obtain ⟨g2, hw, hg2⟩ := okI_wr g hok
  refine z_cW (As := [.ref (X.2.2 1), .int (xs (i + 1).toNatClampNeg), .ref (X.2.2 108)]) (rest := []) S hNC cw_RL_168 (K_L_days (Mr := Mr) hl0 he hw) ⟨rfl, rfl⟩ ⟨Nat.le_of_ble_eq_true rfl, Nat.le_of_ble_eq_true rfl⟩ hcs1 rfl rfl (Nat.le_of_ble_eq_true rfl) dL_law__1081 ?_
  refine z_istore (lv' := [(0, .ref b), (1, .ref (X.2.2 1)), (2, .ref (X.2.2 109)), (3, .ref (X.2.2 108)), (4, .int i), (5, .int (gI Nr 109 0))]) S [1, 2, 3, 4, 5, 0] dL_law__1084 (by decide) rfl ?_
  refine z_aload_n S dL_law__1086 rfl 2 rfl ?_
  refine z_aload_n S dL_law__1087 rfl 0 rfl ?_
  refine z_iload S dL_law__1088 4 rfl ?_
  refine z_iconst (v := 1) S dL_law__1090 (by decide) ?_
  refine z_iadd S dL_law__1091 ?_
  refine z_sld S hX hbl hbA hin1 dL_law__1092 ?_
  refine z_wVI (v := 1) (As := [.int (xs (i + 1).toNatClampNeg)]) (rest := []) S ⟨by decide, by decide⟩ agr3r mix3r cv_RL_171 (K_X10_days hm) ok3_109 (by decide) (q := (RX10, TX10, 28)) rfl rfl ⟨rfl, rfl⟩ ⟨Nat.le_of_ble_eq_true rfl, Nat.le_of_ble_eq_true rfl⟩ hcs1 rfl rfl (Nat.le_of_ble_eq_true rfl) dL_law__1093 ?_
  refine z_istore (lv' := [(0, .ref b), (1, .ref (X.2.2 1)), (2, .ref (X.2.2 109)), (3, .ref (X.2.2 108)), (4, .int i), (5, .int (gI Nr 109 0)), (6, .int v)]) S [1, 2, 3, 4, 5, 6, 0] dL_law__1096 (by decide) rfl ?_
  refine z_aload_n S dL_law__1098 rfl 2 rfl ?_
  refine z_wVI (v := 1) (As := []) (rest := []) S ⟨by decide, by decide⟩ agr3r mix3r cv_RL_127 (K_X10_thrown (M := Nr) rfl) ok3_109 (by decide) (q := (RX10, TX10, 28)) rfl rfl ⟨rfl, rfl⟩ ⟨Nat.le_of_ble_eq_true rfl, Nat.le_of_ble_eq_true rfl⟩ hcs1 rfl rfl (Nat.le_of_ble_eq_true rfl) dL_law__1099 ?_
  refine z_iload S dL_law__1102 5 rfl ?_
  refine z_icmp_eq (tgt := 1109) (A := true) (B := false) (x0 := true) S (if_pos rfl) dL_law__1104 (by decide) (fun _ => ?_) (fun he => nomatch he)
  refine z_iload S dL_law__1109 5 rfl ?_
  have hfin : Z X 3 p l e room_1 s m args below meth c (cells + 3) (slots + 18) Q 7 (mk3 Nc Nr g2) 1126 [(0, .ref b), (1, .ref (X.2.2 1)), (2, .ref (X.2.2 109)), (3, .ref (X.2.2 108)), (4, .int i), (5, .int (gI Nr 109 0)), (6, .int v)] [] := by
    refine z_goto (tgt := 2391) S dL_law__1126 (by decide) ?_
    refine z_lv (ks := [0, 1, 2, 3, 4]) rfl ?_
    exact kk g2
  by_cases ht : gI Nr 109 0 = 0
  · refine z_if_ne (tgt := 1126) (A := true) (B := false) (x0 := true) S (if_pos ht) dL_law__1111 (by decide) (fun he => nomatch he) (fun _ => ?_)
    refine z_aload_n S dL_law__1114 rfl 3 rfl ?_
    refine z_iconst (v := 0) S dL_law__1115 (by decide) ?_
    refine z_lald (i := 108) (N := 1) (A := some ()) (x0 := ()) S ok3_108 (by decide +kernel) (by decide) dL_law__1116 (fun _ => ?_)
    refine z_iload S dL_law__1117 6 rfl ?_
    refine z_i2l S dL_law__1119 ?_
    refine z_lcmp S dL_law__1120 ?_
    refine z_if_eq (tgt := 1126) (A := true) (B := false) (x0 := true) S (if_pos (lgc_eq (hg2 ht))) dL_law__1121 (by decide) (fun _ => ?_) (fun he => nomatch he)
    exact hfin
  · refine z_if_ne (tgt := 1126) (A := true) (B := false) (x0 := false) S (if_neg ht) dL_law__1111 (by decide) (fun _ => ?_) (fun he => nomatch he)
    exact hfin
set_option maxRecDepth 100000 in
set_option maxHeartbeats 4000000 in
theorem LC_15 {X : Cx} {p : Program} {l : Launch} {e : Env} {s : State} {m : MethodId} {args : Array Value} {below : List Frame} {meth : Method} {c : Code} {cells slots : Nat} {Q : State → Prop} {b L : Nat} {xs : Nat → Int32} (hl0 : l.stackTraces = false) (S : SB X 3 p s m args meth c cL_law_ 7 ret RL) (hNC : NCF s) (hX : va_X b L xs s s.heap) (hbl : b < s.heap.size) (hbA : ¬ AA X 3 s.heap.size b) {i : Int32} (hin1 : ibs (i + 1) L = true) (hin2 : ibs (i + 2) L = true) (hin3 : ibs (i + 3) L = true) (hin4 : ibs (i + 4) L = true) (hin5 : ibs (i + 5) L = true) (hcs0 : cells ≤ room_1.cells ∧ slots ≤ room_1.slots) (hcs1 : cells + 3 ≤ room_1.cells ∧ slots + 18 ≤ room_1.slots) {Mc Mr Nc Nr : Mm} {g : Nat → Int64} (hs : so_15 (xs (i + 1).toNatClampNeg) (xs (i + 2).toNatClampNeg) (xs (i + 3).toNatClampNeg) (xs (i + 4).toNatClampNeg) (xs (i + 5).toNatClampNeg) Mc Mr Nc Nr) (kk : ∀ g2, Z X 3 p l e room_1 s m args below meth c (cells + 3) (slots + 18) Q 7 (mk3 Nc Nr g2) 2391 [(0, .ref b), (1, .ref (X.2.2 1)), (2, .ref (X.2.2 109)), (3, .ref (X.2.2 108)), (4, .int i)] []) : Z X 3 p l e room_1 s m args below meth c cells slots Q 7 (mk3 Mc Mr g) 1129 [(0, .ref b), (1, .ref (X.2.2 1)), (2, .ref (X.2.2 109)), (3, .ref (X.2.2 108)), (4, .int i)] [] := by
  obtain ⟨v, he, hm⟩ := hs
  skip
  refine z_aload_n S dL_law__1129 rfl 1 rfl ?_
  refine z_wVI (v := 0) (As := []) (rest := []) S ⟨by decide, by decide⟩ agr3c mix3c cv_RL_172 (K_X9_had he) ok3_1 (by decide) (q := (RX9, TX9, 17)) rfl rfl ⟨rfl, rfl⟩ ⟨Nat.le_of_ble_eq_true rfl, Nat.le_of_ble_eq_true rfl⟩ hcs0 rfl rfl (Nat.le_of_ble_eq_true rfl) dL_law__1130 ?_
  refine z_aload_n S dL_law__1133 rfl 2 rfl ?_
  refine z_wVI (v := 1) (As := []) (rest := [.int v]) S ⟨by decide, by decide⟩ agr3r mix3r cv_RL_175 (K_X10_had hm) ok3_109 (by decide) (q := (RX10, TX10, 28)) rfl rfl ⟨rfl, rfl⟩ ⟨Nat.le_of_ble_eq_true rfl, Nat.le_of_ble_eq_true rfl⟩ hcs0 rfl rfl (Nat.le_of_ble_eq_true rfl) dL_law__1134 ?_
  refine z_icmp_eq (tgt := 2391) (A := true) (B := false) (x0 := true) S (if_pos rfl) dL_law__1137 (by decide) (fun _ => ?_) (fun he => nomatch he)
  refine z_widen (k := cells + 3) (j := slots + 18) (by omega) (by omega) ?_
  exact kk g
set_option maxRecDepth 100000 in
set_option maxHeartbeats 4000000 in
theorem LC_16 {X : Cx} {p : Program} {l : Launch} {e : Env} {s : State} {m : MethodId} {args : Array Value} {below : List Frame} {meth : Method} {c : Code} {cells slots : Nat} {Q : State → Prop} {b L : Nat} {xs : Nat → Int32} (hl0 : l.stackTraces = false) (S : SB X 3 p s m args meth c cL_law_ 7 ret RL) (hNC : NCF s) (hX : va_X b L xs s s.heap) (hbl : b < s.heap.size) (hbA : ¬ AA X 3 s.heap.size b) {i : Int32} (hin1 : ibs (i + 1) L = true) (hin2 : ibs (i + 2) L = true) (hin3 : ibs (i + 3) L = true) (hin4 : ibs (i + 4) L = true) (hin5 : ibs (i + 5) L = true) (hcs0 : cells ≤ room_1.cells ∧ slots ≤ room_1.slots) (hcs1 : cells + 3 ≤ room_1.cells ∧ slots + 18 ≤ room_1.slots) {Mc Mr Nc Nr : Mm} {g : Nat → Int64} (hs : so_16 (xs (i + 1).toNatClampNeg) (xs (i + 2).toNatClampNeg) (xs (i + 3).toNatClampNeg) (xs (i + 4).toNatClampNeg) (xs (i + 5).toNatClampNeg) Mc Mr Nc Nr) (kk : ∀ g2, Z X 3 p l e room_1 s m args below meth c (cells + 3) (slots + 18) Q 7 (mk3 Nc Nr g2) 2391 [(0, .ref b), (1, .ref (X.2.2 1)), (2, .ref (X.2.2 109)), (3, .ref (X.2.2 108)), (4, .int i)] []) : Z X 3 p l e room_1 s m args below meth c cells slots Q 7 (mk3 Mc Mr g) 1142 [(0, .ref b), (1, .ref (X.2.2 1)), (2, .ref (X.2.2 109)), (3, .ref (X.2.2 108)), (4, .int i)] [] := by
  obtain ⟨v, he, hm⟩ := hs
  skip
  refine z_aload_n S dL_law__1142 rfl 1 rfl ?_
  refine z_wVI (v := 0) (As := []) (rest := []) S ⟨by decide, by decide⟩ agr3c mix3c cv_RL_176 (K_X9_first he) ok3_1 (by decide) (q := (RX9, TX9, 17)) rfl rfl ⟨rfl, rfl⟩ ⟨Nat.le_of_ble_eq_true rfl, Nat.le_of_ble_eq_true rfl⟩ hcs0 rfl rfl (Nat.le_of_ble_eq_true rfl) dL_law__1143 ?_
  refine z_aload_n S dL_law__1146 rfl 2 rfl ?_
  refine z_wVI (v := 1) (As := []) (rest := [.int v]) S ⟨by decide, by decide⟩ agr3r mix3r cv_RL_179 (K_X10_first hm) ok3_109 (by decide) (q := (RX10, TX10, 28)) rfl rfl ⟨rfl, rfl⟩ ⟨Nat.le_of_ble_eq_true rfl, Nat.le_of_ble_eq_true rfl⟩ hcs0 rfl rfl (Nat.le_of_ble_eq_true rfl) dL_law__1147 ?_
  refine z_icmp_eq (tgt := 2391) (A := true) (B := false) (x0 := true) S (if_pos rfl) dL_law__1150 (by decide) (fun _ => ?_) (fun he => nomatch he)
  refine z_widen (k := cells + 3) (j := slots + 18) (by omega) (by omega) ?_
  exact kk g
set_option maxRecDepth 100000 in
set_option maxHeartbeats 4000000 in
theorem LC_17 {X : Cx} {p : Program} {l : Launch} {e : Env} {s : State} {m : MethodId} {args : Array Value} {below : List Frame} {meth : Method} {c : Code} {cells slots : Nat} {Q : State → Prop} {b L : Nat} {xs : Nat → Int32} (hl0 : l.stackTraces = false) (S : SB X 3 p s m args meth c cL_law_ 7 ret RL) (hNC : NCF s) (hX : va_X b L xs s s.heap) (hbl : b < s.heap.size) (hbA : ¬ AA X 3 s.heap.size b) {i : Int32} (hin1 : ibs (i + 1) L = true) (hin2 : ibs (i + 2) L = true) (hin3 : ibs (i + 3) L = true) (hin4 : ibs (i + 4) L = true) (hin5 : ibs (i + 5) L = true) (hcs0 : cells ≤ room_1.cells ∧ slots ≤ room_1.slots) (hcs1 : cells + 3 ≤ room_1.cells ∧ slots + 18 ≤ room_1.slots) {Mc Mr Nc Nr : Mm} {g : Nat → Int64} (hs : so_17 (xs (i + 1).toNatClampNeg) (xs (i + 2).toNatClampNeg) (xs (i + 3).toNatClampNeg) (xs (i + 4).toNatClampNeg) (xs (i + 5).toNatClampNeg) Mc Mr Nc Nr) (kk : ∀ g2, Z X 3 p l e room_1 s m args below meth c (cells + 3) (slots + 18) Q 7 (mk3 Nc Nr g2) 2391 [(0, .ref b), (1, .ref (X.2.2 1)), (2, .ref (X.2.2 109)), (3, .ref (X.2.2 108)), (4, .int i)] []) : Z X 3 p l e room_1 s m args below meth c cells slots Q 7 (mk3 Mc Mr g) 1155 [(0, .ref b), (1, .ref (X.2.2 1)), (2, .ref (X.2.2 109)), (3, .ref (X.2.2 108)), (4, .int i)] [] := by
  obtain ⟨v, he, hm⟩ := hs
  skip
  refine z_aload_n S dL_law__1155 rfl 1 rfl ?_
  refine z_wVI (v := 0) (As := []) (rest := []) S ⟨by decide, by decide⟩ agr3c mix3c cv_RL_180 (K_X9_most he) ok3_1 (by decide) (q := (RX9, TX9, 17)) rfl rfl ⟨rfl, rfl⟩ ⟨Nat.le_of_ble_eq_true rfl, Nat.le_of_ble_eq_true rfl⟩ hcs0 rfl rfl (Nat.le_of_ble_eq_true rfl) dL_law__1156 ?_
  refine z_aload_n S dL_law__1159 rfl 2 rfl ?_
  refine z_wVI (v := 1) (As := []) (rest := [.int v]) S ⟨by decide, by decide⟩ agr3r mix3r cv_RL_183 (K_X10_most hm) ok3_109 (by decide) (q := (RX10, TX10, 28)) rfl rfl ⟨rfl, rfl⟩ ⟨Nat.le_of_ble_eq_true rfl, Nat.le_of_ble_eq_true rfl⟩ hcs0 rfl rfl (Nat.le_of_ble_eq_true rfl) dL_law__1160 ?_
  refine z_icmp_eq (tgt := 2391) (A := true) (B := false) (x0 := true) S (if_pos rfl) dL_law__1163 (by decide) (fun _ => ?_) (fun he => nomatch he)
  refine z_widen (k := cells + 3) (j := slots + 18) (by omega) (by omega) ?_
  exact kk g
set_option maxRecDepth 100000 in
set_option maxHeartbeats 4000000 in
theorem LC_18 {X : Cx} {p : Program} {l : Launch} {e : Env} {s : State} {m : MethodId} {args : Array Value} {below : List Frame} {meth : Method} {c : Code} {cells slots : Nat} {Q : State → Prop} {b L : Nat} {xs : Nat → Int32} (hl0 : l.stackTraces = false) (S : SB X 3 p s m args meth c cL_law_ 7 ret RL) (hNC : NCF s) (hX : va_X b L xs s s.heap) (hbl : b < s.heap.size) (hbA : ¬ AA X 3 s.heap.size b) {i : Int32} (hin1 : ibs (i + 1) L = true) (hin2 : ibs (i + 2) L = true) (hin3 : ibs (i + 3) L = true) (hin4 : ibs (i + 4) L = true) (hin5 : ibs (i + 5) L = true) (hcs0 : cells ≤ room_1.cells ∧ slots ≤ room_1.slots) (hcs1 : cells + 3 ≤ room_1.cells ∧ slots + 18 ≤ room_1.slots) {Mc Mr Nc Nr : Mm} {g : Nat → Int64} (hs : so_18 (xs (i + 1).toNatClampNeg) (xs (i + 2).toNatClampNeg) (xs (i + 3).toNatClampNeg) (xs (i + 4).toNatClampNeg) (xs (i + 5).toNatClampNeg) Mc Mr Nc Nr) (kk : ∀ g2, Z X 3 p l e room_1 s m args below meth c (cells + 3) (slots + 18) Q 7 (mk3 Nc Nr g2) 2391 [(0, .ref b), (1, .ref (X.2.2 1)), (2, .ref (X.2.2 109)), (3, .ref (X.2.2 108)), (4, .int i)] []) : Z X 3 p l e room_1 s m args below meth c cells slots Q 7 (mk3 Mc Mr g) 1168 [(0, .ref b), (1, .ref (X.2.2 1)), (2, .ref (X.2.2 109)), (3, .ref (X.2.2 108)), (4, .int i)] [] := by
  obtain ⟨rx, v, he, hm, hok⟩ := hs
  skip
  refine z_aload_n S dL_law__1168 rfl 1 rfl ?_
  refine z_aload_n S dL_law__1169 rfl 0 rfl ?_
  refine z_iload S dL_law__1170 4 rfl ?_
  refine z_iconst (v := 1) S dL_law__1172 (by decide) ?_
  refine z_iadd S dL_law__1173 ?_
  refine z_sld S hX hbl hbA hin1 dL_law__1174 ?_
  refine z_aload_n S dL_law__1175 rfl 3 rfl ?_
  obtain ⟨g2, hw, hg2⟩ := okI_wr g hok
  refine z_cW (As := [.ref (X.2.2 1), .int (xs (i + 1).toNatClampNeg), .ref (X.2.2 108)]) (rest := []) S hNC cw_RL_184 (K_L_dearest (Mr := Mr) hl0 he hw) ⟨rfl, rfl⟩ ⟨Nat.le_of_ble_eq_true rfl, Nat.le_of_ble_eq_true rfl⟩ hcs1 rfl rfl (Nat.le_of_ble_eq_true rfl) dL_law__1176 ?_
  refine z_istore (lv' := [(0, .ref b), (1, .ref (X.2.2 1)), (2, .ref (X.2.2 109)), (3, .ref (X.2.2 108)), (4, .int i), (5, .int (gI Nr 109 0))]) S [1, 2, 3, 4, 5, 0] dL_law__1179 (by decide) rfl ?_
  refine z_aload_n S dL_law__1181 rfl 2 rfl ?_
  refine z_aload_n S dL_law__1182 rfl 0 rfl ?_
  refine z_iload S dL_law__1183 4 rfl ?_
  refine z_iconst (v := 1) S dL_law__1185 (by decide) ?_
  refine z_iadd S dL_law__1186 ?_
  refine z_sld S hX hbl hbA hin1 dL_law__1187 ?_
  refine z_wVI (v := 1) (As := [.int (xs (i + 1).toNatClampNeg)]) (rest := []) S ⟨by decide, by decide⟩ agr3r mix3r cv_RL_186 (K_X10_dearest hm) ok3_109 (by decide) (q := (RX10, TX10, 28)) rfl rfl ⟨rfl, rfl⟩ ⟨Nat.le_of_ble_eq_true rfl, Nat.le_of_ble_eq_true rfl⟩ hcs1 rfl rfl (Nat.le_of_ble_eq_true rfl) dL_law__1188 ?_
  refine z_istore (lv' := [(0, .ref b), (1, .ref (X.2.2 1)), (2, .ref (X.2.2 109)), (3, .ref (X.2.2 108)), (4, .int i), (5, .int (gI Nr 109 0)), (6, .int v)]) S [1, 2, 3, 4, 5, 6, 0] dL_law__1191 (by decide) rfl ?_
  refine z_aload_n S dL_law__1193 rfl 2 rfl ?_
  refine z_wVI (v := 1) (As := []) (rest := []) S ⟨by decide, by decide⟩ agr3r mix3r cv_RL_127 (K_X10_thrown (M := Nr) rfl) ok3_109 (by decide) (q := (RX10, TX10, 28)) rfl rfl ⟨rfl, rfl⟩ ⟨Nat.le_of_ble_eq_true rfl, Nat.le_of_ble_eq_true rfl⟩ hcs1 rfl rfl (Nat.le_of_ble_eq_true rfl) dL_law__1194 ?_
  refine z_iload S dL_law__1197 5 rfl ?_
  refine z_icmp_eq (tgt := 1204) (A := true) (B := false) (x0 := true) S (if_pos rfl) dL_law__1199 (by decide) (fun _ => ?_) (fun he => nomatch he)
  refine z_iload S dL_law__1204 5 rfl ?_
  have hfin : Z X 3 p l e room_1 s m args below meth c (cells + 3) (slots + 18) Q 7 (mk3 Nc Nr g2) 1221 [(0, .ref b), (1, .ref (X.2.2 1)), (2, .ref (X.2.2 109)), (3, .ref (X.2.2 108)), (4, .int i), (5, .int (gI Nr 109 0)), (6, .int v)] [] := by
    refine z_goto (tgt := 2391) S dL_law__1221 (by decide) ?_
    refine z_lv (ks := [0, 1, 2, 3, 4]) rfl ?_
    exact kk g2
  by_cases ht : gI Nr 109 0 = 0
  · refine z_if_ne (tgt := 1221) (A := true) (B := false) (x0 := true) S (if_pos ht) dL_law__1206 (by decide) (fun he => nomatch he) (fun _ => ?_)
    refine z_aload_n S dL_law__1209 rfl 3 rfl ?_
    refine z_iconst (v := 0) S dL_law__1210 (by decide) ?_
    refine z_lald (i := 108) (N := 1) (A := some ()) (x0 := ()) S ok3_108 (by decide +kernel) (by decide) dL_law__1211 (fun _ => ?_)
    refine z_iload S dL_law__1212 6 rfl ?_
    refine z_i2l S dL_law__1214 ?_
    refine z_lcmp S dL_law__1215 ?_
    refine z_if_eq (tgt := 1221) (A := true) (B := false) (x0 := true) S (if_pos (lgc_eq (hg2 ht))) dL_law__1216 (by decide) (fun _ => ?_) (fun he => nomatch he)
    exact hfin
  · refine z_if_ne (tgt := 1221) (A := true) (B := false) (x0 := false) S (if_neg ht) dL_law__1206 (by decide) (fun _ => ?_) (fun he => nomatch he)
    exact hfin
set_option maxRecDepth 100000 in
set_option maxHeartbeats 4000000 in
theorem LC_19 {X : Cx} {p : Program} {l : Launch} {e : Env} {s : State} {m : MethodId} {args : Array Value} {below : List Frame} {meth : Method} {c : Code} {cells slots : Nat} {Q : State → Prop} {b L : Nat} {xs : Nat → Int32} (hl0 : l.stackTraces = false) (S : SB X 3 p s m args meth c cL_law_ 7 ret RL) (hNC : NCF s) (hX : va_X b L xs s s.heap) (hbl : b < s.heap.size) (hbA : ¬ AA X 3 s.heap.size b) {i : Int32} (hin1 : ibs (i + 1) L = true) (hin2 : ibs (i + 2) L = true) (hin3 : ibs (i + 3) L = true) (hin4 : ibs (i + 4) L = true) (hin5 : ibs (i + 5) L = true) (hcs0 : cells ≤ room_1.cells ∧ slots ≤ room_1.slots) (hcs1 : cells + 3 ≤ room_1.cells ∧ slots + 18 ≤ room_1.slots) {Mc Mr Nc Nr : Mm} {g : Nat → Int64} (hs : so_19 (xs (i + 1).toNatClampNeg) (xs (i + 2).toNatClampNeg) (xs (i + 3).toNatClampNeg) (xs (i + 4).toNatClampNeg) (xs (i + 5).toNatClampNeg) Mc Mr Nc Nr) (kk : ∀ g2, Z X 3 p l e room_1 s m args below meth c (cells + 3) (slots + 18) Q 7 (mk3 Nc Nr g2) 2391 [(0, .ref b), (1, .ref (X.2.2 1)), (2, .ref (X.2.2 109)), (3, .ref (X.2.2 108)), (4, .int i)] []) : Z X 3 p l e room_1 s m args below meth c cells slots Q 7 (mk3 Mc Mr g) 1224 [(0, .ref b), (1, .ref (X.2.2 1)), (2, .ref (X.2.2 109)), (3, .ref (X.2.2 108)), (4, .int i)] [] := by
  obtain ⟨v, he, hm⟩ := hs
  skip
  refine z_aload_n S dL_law__1224 rfl 1 rfl ?_
  refine z_wVI (v := 0) (As := []) (rest := []) S ⟨by decide, by decide⟩ agr3c mix3c cv_RL_187 (K_X9_cannot he) ok3_1 (by decide) (q := (RX9, TX9, 17)) rfl rfl ⟨rfl, rfl⟩ ⟨Nat.le_of_ble_eq_true rfl, Nat.le_of_ble_eq_true rfl⟩ hcs0 rfl rfl (Nat.le_of_ble_eq_true rfl) dL_law__1225 ?_
  refine z_aload_n S dL_law__1228 rfl 2 rfl ?_
  refine z_wVI (v := 1) (As := []) (rest := [.int v]) S ⟨by decide, by decide⟩ agr3r mix3r cv_RL_190 (K_X10_cannot hm) ok3_109 (by decide) (q := (RX10, TX10, 28)) rfl rfl ⟨rfl, rfl⟩ ⟨Nat.le_of_ble_eq_true rfl, Nat.le_of_ble_eq_true rfl⟩ hcs0 rfl rfl (Nat.le_of_ble_eq_true rfl) dL_law__1229 ?_
  refine z_icmp_eq (tgt := 2391) (A := true) (B := false) (x0 := true) S (if_pos rfl) dL_law__1232 (by decide) (fun _ => ?_) (fun he => nomatch he)
  refine z_widen (k := cells + 3) (j := slots + 18) (by omega) (by omega) ?_
  exact kk g
set_option maxRecDepth 100000 in
set_option maxHeartbeats 4000000 in
theorem LC_20 {X : Cx} {p : Program} {l : Launch} {e : Env} {s : State} {m : MethodId} {args : Array Value} {below : List Frame} {meth : Method} {c : Code} {cells slots : Nat} {Q : State → Prop} {b L : Nat} {xs : Nat → Int32} (hl0 : l.stackTraces = false) (S : SB X 3 p s m args meth c cL_law_ 7 ret RL) (hNC : NCF s) (hX : va_X b L xs s s.heap) (hbl : b < s.heap.size) (hbA : ¬ AA X 3 s.heap.size b) {i : Int32} (hin1 : ibs (i + 1) L = true) (hin2 : ibs (i + 2) L = true) (hin3 : ibs (i + 3) L = true) (hin4 : ibs (i + 4) L = true) (hin5 : ibs (i + 5) L = true) (hcs0 : cells ≤ room_1.cells ∧ slots ≤ room_1.slots) (hcs1 : cells + 3 ≤ room_1.cells ∧ slots + 18 ≤ room_1.slots) {Mc Mr Nc Nr : Mm} {g : Nat → Int64} (hs : so_20 (xs (i + 1).toNatClampNeg) (xs (i + 2).toNatClampNeg) (xs (i + 3).toNatClampNeg) (xs (i + 4).toNatClampNeg) (xs (i + 5).toNatClampNeg) Mc Mr Nc Nr) (kk : ∀ g2, Z X 3 p l e room_1 s m args below meth c (cells + 3) (slots + 18) Q 7 (mk3 Nc Nr g2) 2391 [(0, .ref b), (1, .ref (X.2.2 1)), (2, .ref (X.2.2 109)), (3, .ref (X.2.2 108)), (4, .int i)] []) : Z X 3 p l e room_1 s m args below meth c cells slots Q 7 (mk3 Mc Mr g) 1237 [(0, .ref b), (1, .ref (X.2.2 1)), (2, .ref (X.2.2 109)), (3, .ref (X.2.2 108)), (4, .int i)] [] := by
  obtain ⟨v, he, hm⟩ := hs
  by_cases hx1 : xs (i + 1).toNatClampNeg = 0
  · rw [show nb (xs (i + 1).toNatClampNeg) = 0 from if_pos hx1] at he hm
    refine z_aload_n S dL_law__1237 rfl 1 rfl ?_
    refine z_aload_n S dL_law__1238 rfl 0 rfl ?_
    refine z_iload S dL_law__1239 4 rfl ?_
    refine z_iconst (v := 1) S dL_law__1241 (by decide) ?_
    refine z_iadd S dL_law__1242 ?_
    refine z_sld S hX hbl hbA hin1 dL_law__1243 ?_
    refine z_if_eq (tgt := 1251) (A := true) (B := false) (x0 := true) S (if_pos hx1) dL_law__1244 (by decide) (fun _ => ?_) (fun he => nomatch he)
    refine z_iconst (v := 0) S dL_law__1251 (by decide) ?_
    refine z_wVI (v := 0) (As := [.int 0]) (rest := []) S ⟨by decide, by decide⟩ agr3c mix3c cv_RL_191 (K_X9_change he) ok3_1 (by decide) (q := (RX9, TX9, 17)) rfl rfl ⟨rfl, rfl⟩ ⟨Nat.le_of_ble_eq_true rfl, Nat.le_of_ble_eq_true rfl⟩ hcs0 rfl rfl (Nat.le_of_ble_eq_true rfl) dL_law__1252 ?_
    refine z_aload_n S dL_law__1255 rfl 2 rfl ?_
    refine z_aload_n S dL_law__1256 rfl 0 rfl ?_
    refine z_iload S dL_law__1257 4 rfl ?_
    refine z_iconst (v := 1) S dL_law__1259 (by decide) ?_
    refine z_iadd S dL_law__1260 ?_
    refine z_sld S hX hbl hbA hin1 dL_law__1261 ?_
    refine z_if_eq (tgt := 1269) (A := true) (B := false) (x0 := true) S (if_pos hx1) dL_law__1262 (by decide) (fun _ => ?_) (fun he => nomatch he)
    refine z_iconst (v := 0) S dL_law__1269 (by decide) ?_
    refine z_wVI (v := 1) (As := [.int 0]) (rest := [.int v]) S ⟨by decide, by decide⟩ agr3r mix3r cv_RL_194 (K_X10_change hm) ok3_109 (by decide) (q := (RX10, TX10, 28)) rfl rfl ⟨rfl, rfl⟩ ⟨Nat.le_of_ble_eq_true rfl, Nat.le_of_ble_eq_true rfl⟩ hcs0 rfl rfl (Nat.le_of_ble_eq_true rfl) dL_law__1270 ?_
    refine z_icmp_eq (tgt := 2391) (A := true) (B := false) (x0 := true) S (if_pos rfl) dL_law__1273 (by decide) (fun _ => ?_) (fun he => nomatch he)
    refine z_widen (k := cells + 3) (j := slots + 18) (by omega) (by omega) ?_
    exact kk g
  · rw [show nb (xs (i + 1).toNatClampNeg) = 1 from if_neg hx1] at he hm
    refine z_aload_n S dL_law__1237 rfl 1 rfl ?_
    refine z_aload_n S dL_law__1238 rfl 0 rfl ?_
    refine z_iload S dL_law__1239 4 rfl ?_
    refine z_iconst (v := 1) S dL_law__1241 (by decide) ?_
    refine z_iadd S dL_law__1242 ?_
    refine z_sld S hX hbl hbA hin1 dL_law__1243 ?_
    refine z_if_eq (tgt := 1251) (A := true) (B := false) (x0 := false) S (if_neg hx1) dL_law__1244 (by decide) (fun he => nomatch he) (fun _ => ?_)
    refine z_iconst (v := 1) S dL_law__1247 (by decide) ?_
    refine z_goto (tgt := 1252) S dL_law__1248 (by decide) ?_
    refine z_wVI (v := 0) (As := [.int 1]) (rest := []) S ⟨by decide, by decide⟩ agr3c mix3c cv_RL_191 (K_X9_change he) ok3_1 (by decide) (q := (RX9, TX9, 17)) rfl rfl ⟨rfl, rfl⟩ ⟨Nat.le_of_ble_eq_true rfl, Nat.le_of_ble_eq_true rfl⟩ hcs0 rfl rfl (Nat.le_of_ble_eq_true rfl) dL_law__1252 ?_
    refine z_aload_n S dL_law__1255 rfl 2 rfl ?_
    refine z_aload_n S dL_law__1256 rfl 0 rfl ?_
    refine z_iload S dL_law__1257 4 rfl ?_
    refine z_iconst (v := 1) S dL_law__1259 (by decide) ?_
    refine z_iadd S dL_law__1260 ?_
    refine z_sld S hX hbl hbA hin1 dL_law__1261 ?_
    refine z_if_eq (tgt := 1269) (A := true) (B := false) (x0 := false) S (if_neg hx1) dL_law__1262 (by decide) (fun he => nomatch he) (fun _ => ?_)
    refine z_iconst (v := 1) S dL_law__1265 (by decide) ?_
    refine z_goto (tgt := 1270) S dL_law__1266 (by decide) ?_
    refine z_wVI (v := 1) (As := [.int 1]) (rest := [.int v]) S ⟨by decide, by decide⟩ agr3r mix3r cv_RL_194 (K_X10_change hm) ok3_109 (by decide) (q := (RX10, TX10, 28)) rfl rfl ⟨rfl, rfl⟩ ⟨Nat.le_of_ble_eq_true rfl, Nat.le_of_ble_eq_true rfl⟩ hcs0 rfl rfl (Nat.le_of_ble_eq_true rfl) dL_law__1270 ?_
    refine z_icmp_eq (tgt := 2391) (A := true) (B := false) (x0 := true) S (if_pos rfl) dL_law__1273 (by decide) (fun _ => ?_) (fun he => nomatch he)
    refine z_widen (k := cells + 3) (j := slots + 18) (by omega) (by omega) ?_
    exact kk g
