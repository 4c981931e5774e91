/-! the loop of the law over the script, out of a relation that every call keeps -/
theorem and63 (x : Int32) : ∃ k : Nat, k < 64 ∧ x &&& 63 = Int32.ofNat k := by
  refine ⟨(x.toBitVec &&& 63#32).toNat, ?_, ?_⟩
  · rw [BitVec.toNat_and]
    exact Nat.lt_of_le_of_lt (Nat.and_le_right (n := x.toBitVec.toNat) (m := (63#32).toNat)) (by decide)
  · apply Int32.toBitVec_inj.mp
    rw [Int32.toBitVec_and, Int32.toBitVec_ofNat', BitVec.ofNat_toNat, BitVec.setWidth_eq]
    rfl
theorem cases42 {k : Nat} (h : k < 42) : k = 0 ∨ k = 1 ∨ k = 2 ∨ k = 3 ∨ k = 4 ∨ k = 5 ∨ k = 6 ∨ k = 7 ∨ k = 8 ∨ k = 9 ∨ k = 10 ∨ k = 11 ∨ k = 12 ∨ k = 13 ∨ k = 14 ∨ k = 15 ∨ k = 16 ∨ k = 17 ∨ k = 18 ∨ k = 19 ∨ k = 20 ∨ k = 21 ∨ k = 22 ∨ k = 23 ∨ k = 24 ∨ k = 25 ∨ k = 26 ∨ k = 27 ∨ k = 28 ∨ k = 29 ∨ k = 30 ∨ k = 31 ∨ k = 32 ∨ k = 33 ∨ k = 34 ∨ k = 35 ∨ k = 36 ∨ k = 37 ∨ k = 38 ∨ k = 39 ∨ k = 40 ∨ k = 41 := by omega
set_option maxRecDepth 100000 in
set_option maxHeartbeats 8000000 in
theorem law_loop {X : Cx} {p : Program} {l : Launch} {e : Env} {s : State} {m : MethodId} {args : Array Value} {below : List Frame} {meth : Method} {c : Code} {Q : State → Prop} {b L c0 s0 : Nat} {xs : Nat → Int32} (hl0 : l.stackTraces = false) (S : SB X 3 p s m args meth c cL_law_ 7 ret RL) (hNC : NCF s) (hX : va_X b L xs s s.heap) (hbl : b < s.heap.size) (hbA : ¬ AA X 3 s.heap.size b) (hL : L ≤ 3072) (hc0 : c0 + 2000 ≤ room_1.cells) (hs0 : s0 + 20000 ≤ room_1.slots)
    (R : Nat → Mm → Mm → Prop) (hmono : ∀ n Mc Mr, R n Mc Mr → R (n + 1) Mc Mr) (hstep : ∀ n Mc Mr, n < 512 → R n Mc Mr → ∀ k, k < 42 → ∀ x1 x2 x3 x4 x5, ∃ Nc Nr, stepOK k x1 x2 x3 x4 x5 Mc Mr Nc Nr ∧ R (n + 1) Nc Nr)
    (hexit : ∀ n M, n ≤ 512 → Z X 3 p l e room_1 s m args below meth c (c0 + 3 * n) (s0 + 18 * n) Q 7 M 2397 [] []) :
    ∀ (j n : Nat) (Mc Mr : Mm) (g : Nat → Int64), L < 6 * (n + j) → 6 * n ≤ L ∨ n = 0 → R n Mc Mr → Z X 3 p l e room_1 s m args below meth c (c0 + 3 * n) (s0 + 18 * n) Q 7 (mk3 Mc Mr g) 23 [(0, .ref b), (1, .ref (X.2.2 1)), (2, .ref (X.2.2 109)), (3, .ref (X.2.2 108)), (4, .int (nI (6 * n)))] [] := by
  have hr : room_1.cells = 601024 ∧ room_1.slots = 7293034 := ⟨rfl, rfl⟩
  intro j
  induction j with
  | zero => intro n Mc Mr g h1 h2 _; omega
  | succ j ih =>
    intro n Mc Mr g h1 h2 hR
    have hn : n ≤ 512 := by omega
    refine z_iload S dL_law__23 4 rfl ?_
    refine z_aload_n S dL_law__25 rfl 0 rfl ?_
    refine z_slen S hX hbl hbA dL_law__26 ?_
    refine z_bipush (v := 6) S dL_law__27 (by decide) ?_
    refine z_isub S dL_law__29 ?_
    by_cases hx : Int32.ofNat L - 6 < nI (6 * n)
    · refine z_icmp_gt (tgt := 2397) (A := true) (B := false) (x0 := true) S (if_pos hx) dL_law__30 (by decide) (fun _ => ?_) (fun he => nomatch he)
      refine z_lv (ks := []) rfl ?_
      exact hexit n _ hn
    · refine z_icmp_gt (tgt := 2397) (A := true) (B := false) (x0 := false) S (if_neg hx) dL_law__30 (by decide) (fun he => nomatch he) (fun _ => ?_)
      have hle : 6 * n + 6 ≤ L := by
        rw [Int32.lt_iff_toInt_lt, Int32.toInt_sub, show Int32.ofNat L = nI L from rfl, nI_toInt (by omega), nI_toInt (by omega), show (6 : Int32).toInt = 6 from rfl, Int.bmod_eq_of_le (by omega) (by omega)] at hx
        omega
      have hin : ∀ q : Nat, q < 6 → ibs (nI (6 * n) + nI q) L = true := fun q hq => by
        rw [nI_add]
        exact decide_eq_true (nI_in (by omega) (by omega))
      have hin0 : ibs (nI (6 * n)) L = true := decide_eq_true (nI_in (by omega) (by omega))
      refine z_aload_n S dL_law__33 rfl 0 rfl ?_
      refine z_iload S dL_law__34 4 rfl ?_
      refine z_sld S hX hbl hbA hin0 dL_law__36 ?_
      refine z_bipush (v := 63) S dL_law__37 (by decide) ?_
      refine z_iand S dL_law__39 ?_
      have hcs0 : c0 + 3 * n ≤ room_1.cells ∧ s0 + 18 * n ≤ room_1.slots := by omega
      have hcs1 : c0 + 3 * n + 3 ≤ room_1.cells ∧ s0 + 18 * n + 18 ≤ room_1.slots := by omega
      obtain ⟨k, hk, hv⟩ := and63 (xs (nI (6 * n)).toNatClampNeg)
      have go : ∀ (Nc Nr : Mm), R (n + 1) Nc Nr → ∀ g2, Z X 3 p l e room_1 s m args below meth c (c0 + 3 * n + 3) (s0 + 18 * n + 18) Q 7 (mk3 Nc Nr g2) 2391 [(0, .ref b), (1, .ref (X.2.2 1)), (2, .ref (X.2.2 109)), (3, .ref (X.2.2 108)), (4, .int (nI (6 * n)))] [] := by
        intro Nc Nr hR2 g2
        refine z_iinc (v := nI (6 * (n + 1))) (lv' := [(0, .ref b), (1, .ref (X.2.2 1)), (2, .ref (X.2.2 109)), (3, .ref (X.2.2 108)), (4, .int (nI (6 * (n + 1))))]) S [1, 2, 3, 4, 0] 4 dL_law__2391 rfl (by rw [show Int32.ofInt 6 = nI 6 from rfl, nI_add]; rfl) (by decide) rfl ?_
        refine z_goto (tgt := 23) S dL_law__2394 (by decide) ?_
        exact ih (n + 1) Nc Nr g2 (by omega) (Or.inl (by omega)) hR2
      rcases Nat.lt_or_ge k 42 with hk2 | hk2
      · obtain ⟨Nc, Nr, hs, hR2⟩ := hstep n Mc Mr (by omega) hR k hk2 (xs (nI (6 * n) + 1).toNatClampNeg) (xs (nI (6 * n) + 2).toNatClampNeg) (xs (nI (6 * n) + 3).toNatClampNeg) (xs (nI (6 * n) + 4).toNatClampNeg) (xs (nI (6 * n) + 5).toNatClampNeg)
        have back := go Nc Nr hR2
        rcases cases42 hk2 with rfl | rfl | rfl | rfl | rfl | rfl | rfl | rfl | rfl | rfl | rfl | rfl | rfl | rfl | rfl | rfl | rfl | rfl | rfl | rfl | rfl | rfl | rfl | rfl | rfl | rfl | rfl | rfl | rfl | rfl | rfl | rfl | rfl | rfl | rfl | rfl | rfl | rfl | rfl | rfl | rfl | rfl
        · refine z_tabIn (v := 0) (tgt := 224) S dL_law__40 hv (by decide) (by decide) rfl (by decide) ?_
          exact LC_0 hl0 S hNC hX hbl hbA (i := nI (6 * n)) (hin 1 (by decide)) (hin 2 (by decide)) (hin 3 (by decide)) (hin 4 (by decide)) (hin 5 (by decide)) hcs0 hcs1 hs back
        · refine z_tabIn (v := 1) (tgt := 297) S dL_law__40 hv (by decide) (by decide) rfl (by decide) ?_
          exact LC_1 hl0 S hNC hX hbl hbA (i := nI (6 * n)) (hin 1 (by decide)) (hin 2 (by decide)) (hin 3 (by decide)) (hin 4 (by decide)) (hin 5 (by decide)) hcs0 hcs1 hs back
        · refine z_tabIn (v := 2) (tgt := 322) S dL_law__40 hv (by decide) (by decide) rfl (by decide) ?_
          exact LC_2 hl0 S hNC hX hbl hbA (i := nI (6 * n)) (hin 1 (by decide)) (hin 2 (by decide)) (hin 3 (by decide)) (hin 4 (by decide)) (hin 5 (by decide)) hcs0 hcs1 hs back
        · refine z_tabIn (v := 3) (tgt := 366) S dL_law__40 hv (by decide) (by decide) rfl (by decide) ?_
          exact LC_3 hl0 S hNC hX hbl hbA (i := nI (6 * n)) (hin 1 (by decide)) (hin 2 (by decide)) (hin 3 (by decide)) (hin 4 (by decide)) (hin 5 (by decide)) hcs0 hcs1 hs back
        · refine z_tabIn (v := 4) (tgt := 410) S dL_law__40 hv (by decide) (by decide) rfl (by decide) ?_
          exact LC_4 hl0 S hNC hX hbl hbA (i := nI (6 * n)) (hin 1 (by decide)) (hin 2 (by decide)) (hin 3 (by decide)) (hin 4 (by decide)) (hin 5 (by decide)) hcs0 hcs1 hs back
        · refine z_tabIn (v := 5) (tgt := 423) S dL_law__40 hv (by decide) (by decide) rfl (by decide) ?_
          exact LC_5 hl0 S hNC hX hbl hbA (i := nI (6 * n)) (hin 1 (by decide)) (hin 2 (by decide)) (hin 3 (by decide)) (hin 4 (by decide)) (hin 5 (by decide)) hcs0 hcs1 hs back
        · refine z_tabIn (v := 6) (tgt := 491) S dL_law__40 hv (by decide) (by decide) rfl (by decide) ?_
          exact LC_6 hl0 S hNC hX hbl hbA (i := nI (6 * n)) (hin 1 (by decide)) (hin 2 (by decide)) (hin 3 (by decide)) (hin 4 (by decide)) (hin 5 (by decide)) hcs0 hcs1 hs back
        · refine z_tabIn (v := 7) (tgt := 559) S dL_law__40 hv (by decide) (by decide) rfl (by decide) ?_
          exact LC_7 hl0 S hNC hX hbl hbA (i := nI (6 * n)) (hin 1 (by decide)) (hin 2 (by decide)) (hin 3 (by decide)) (hin 4 (by decide)) (hin 5 (by decide)) hcs0 hcs1 hs back
        · refine z_tabIn (v := 8) (tgt := 627) S dL_law__40 hv (by decide) (by decide) rfl (by decide) ?_
          exact LC_8 hl0 S hNC hX hbl hbA (i := nI (6 * n)) (hin 1 (by decide)) (hin 2 (by decide)) (hin 3 (by decide)) (hin 4 (by decide)) (hin 5 (by decide)) hcs0 hcs1 hs back
        · refine z_tabIn (v := 9) (tgt := 695) S dL_law__40 hv (by decide) (by decide) rfl (by decide) ?_
          exact LC_9 hl0 S hNC hX hbl hbA (i := nI (6 * n)) (hin 1 (by decide)) (hin 2 (by decide)) (hin 3 (by decide)) (hin 4 (by decide)) (hin 5 (by decide)) hcs0 hcs1 hs back
        · refine z_tabIn (v := 10) (tgt := 763) S dL_law__40 hv (by decide) (by decide) rfl (by decide) ?_
          exact LC_10 hl0 S hNC hX hbl hbA (i := nI (6 * n)) (hin 1 (by decide)) (hin 2 (by decide)) (hin 3 (by decide)) (hin 4 (by decide)) (hin 5 (by decide)) hcs0 hcs1 hs back
        · refine z_tabIn (v := 11) (tgt := 854) S dL_law__40 hv (by decide) (by decide) rfl (by decide) ?_
          exact LC_11 hl0 S hNC hX hbl hbA (i := nI (6 * n)) (hin 1 (by decide)) (hin 2 (by decide)) (hin 3 (by decide)) (hin 4 (by decide)) (hin 5 (by decide)) hcs0 hcs1 hs back
        · refine z_tabIn (v := 12) (tgt := 922) S dL_law__40 hv (by decide) (by decide) rfl (by decide) ?_
          exact LC_12 hl0 S hNC hX hbl hbA (i := nI (6 * n)) (hin 1 (by decide)) (hin 2 (by decide)) (hin 3 (by decide)) (hin 4 (by decide)) (hin 5 (by decide)) hcs0 hcs1 hs back
        · refine z_tabIn (v := 13) (tgt := 1025) S dL_law__40 hv (by decide) (by decide) rfl (by decide) ?_
          exact LC_13 hl0 S hNC hX hbl hbA (i := nI (6 * n)) (hin 1 (by decide)) (hin 2 (by decide)) (hin 3 (by decide)) (hin 4 (by decide)) (hin 5 (by decide)) hcs0 hcs1 hs back
        · refine z_tabIn (v := 14) (tgt := 1073) S dL_law__40 hv (by decide) (by decide) rfl (by decide) ?_
          exact LC_14 hl0 S hNC hX hbl hbA (i := nI (6 * n)) (hin 1 (by decide)) (hin 2 (by decide)) (hin 3 (by decide)) (hin 4 (by decide)) (hin 5 (by decide)) hcs0 hcs1 hs back
        · refine z_tabIn (v := 15) (tgt := 1129) S dL_law__40 hv (by decide) (by decide) rfl (by decide) ?_
          exact LC_15 hl0 S hNC hX hbl hbA (i := nI (6 * n)) (hin 1 (by decide)) (hin 2 (by decide)) (hin 3 (by decide)) (hin 4 (by decide)) (hin 5 (by decide)) hcs0 hcs1 hs back
        · refine z_tabIn (v := 16) (tgt := 1142) S dL_law__40 hv (by decide) (by decide) rfl (by decide) ?_
          exact LC_16 hl0 S hNC hX hbl hbA (i := nI (6 * n)) (hin 1 (by decide)) (hin 2 (by decide)) (hin 3 (by decide)) (hin 4 (by decide)) (hin 5 (by decide)) hcs0 hcs1 hs back
        · refine z_tabIn (v := 17) (tgt := 1155) S dL_law__40 hv (by decide) (by decide) rfl (by decide) ?_
          exact LC_17 hl0 S hNC hX hbl hbA (i := nI (6 * n)) (hin 1 (by decide)) (hin 2 (by decide)) (hin 3 (by decide)) (hin 4 (by decide)) (hin 5 (by decide)) hcs0 hcs1 hs back
        · refine z_tabIn (v := 18) (tgt := 1168) S dL_law__40 hv (by decide) (by decide) rfl (by decide) ?_
          exact LC_18 hl0 S hNC hX hbl hbA (i := nI (6 * n)) (hin 1 (by decide)) (hin 2 (by decide)) (hin 3 (by decide)) (hin 4 (by decide)) (hin 5 (by decide)) hcs0 hcs1 hs back
        · refine z_tabIn (v := 19) (tgt := 1224) S dL_law__40 hv (by decide) (by decide) rfl (by decide) ?_
          exact LC_19 hl0 S hNC hX hbl hbA (i := nI (6 * n)) (hin 1 (by decide)) (hin 2 (by decide)) (hin 3 (by decide)) (hin 4 (by decide)) (hin 5 (by decide)) hcs0 hcs1 hs back
        · refine z_tabIn (v := 20) (tgt := 1237) S dL_law__40 hv (by decide) (by decide) rfl (by decide) ?_
          exact LC_20 hl0 S hNC hX hbl hbA (i := nI (6 * n)) (hin 1 (by decide)) (hin 2 (by decide)) (hin 3 (by decide)) (hin 4 (by decide)) (hin 5 (by decide)) hcs0 hcs1 hs back
        · refine z_tabIn (v := 21) (tgt := 1278) S dL_law__40 hv (by decide) (by decide) rfl (by decide) ?_
          exact LC_21 hl0 S hNC hX hbl hbA (i := nI (6 * n)) (hin 1 (by decide)) (hin 2 (by decide)) (hin 3 (by decide)) (hin 4 (by decide)) (hin 5 (by decide)) hcs0 hcs1 hs back
        · refine z_tabIn (v := 22) (tgt := 1362) S dL_law__40 hv (by decide) (by decide) rfl (by decide) ?_
          exact LC_22 hl0 S hNC hX hbl hbA (i := nI (6 * n)) (hin 1 (by decide)) (hin 2 (by decide)) (hin 3 (by decide)) (hin 4 (by decide)) (hin 5 (by decide)) hcs0 hcs1 hs back
        · refine z_tabIn (v := 23) (tgt := 1375) S dL_law__40 hv (by decide) (by decide) rfl (by decide) ?_
          exact LC_23 hl0 S hNC hX hbl hbA (i := nI (6 * n)) (hin 1 (by decide)) (hin 2 (by decide)) (hin 3 (by decide)) (hin 4 (by decide)) (hin 5 (by decide)) hcs0 hcs1 hs back
        · refine z_tabIn (v := 24) (tgt := 1388) S dL_law__40 hv (by decide) (by decide) rfl (by decide) ?_
          exact LC_24 hl0 S hNC hX hbl hbA (i := nI (6 * n)) (hin 1 (by decide)) (hin 2 (by decide)) (hin 3 (by decide)) (hin 4 (by decide)) (hin 5 (by decide)) hcs0 hcs1 hs back
        · refine z_tabIn (v := 25) (tgt := 1456) S dL_law__40 hv (by decide) (by decide) rfl (by decide) ?_
          exact LC_25 hl0 S hNC hX hbl hbA (i := nI (6 * n)) (hin 1 (by decide)) (hin 2 (by decide)) (hin 3 (by decide)) (hin 4 (by decide)) (hin 5 (by decide)) hcs0 hcs1 hs back
        · refine z_tabIn (v := 26) (tgt := 1540) S dL_law__40 hv (by decide) (by decide) rfl (by decide) ?_
          exact LC_26 hl0 S hNC hX hbl hbA (i := nI (6 * n)) (hin 1 (by decide)) (hin 2 (by decide)) (hin 3 (by decide)) (hin 4 (by decide)) (hin 5 (by decide)) hcs0 hcs1 hs back
        · refine z_tabIn (v := 27) (tgt := 1612) S dL_law__40 hv (by decide) (by decide) rfl (by decide) ?_
          exact LC_27 hl0 S hNC hX hbl hbA (i := nI (6 * n)) (hin 1 (by decide)) (hin 2 (by decide)) (hin 3 (by decide)) (hin 4 (by decide)) (hin 5 (by decide)) hcs0 hcs1 hs back
        · refine z_tabIn (v := 28) (tgt := 1656) S dL_law__40 hv (by decide) (by decide) rfl (by decide) ?_
          exact LC_28 hl0 S hNC hX hbl hbA (i := nI (6 * n)) (hin 1 (by decide)) (hin 2 (by decide)) (hin 3 (by decide)) (hin 4 (by decide)) (hin 5 (by decide)) hcs0 hcs1 hs back
        · refine z_tabIn (v := 29) (tgt := 1736) S dL_law__40 hv (by decide) (by decide) rfl (by decide) ?_
          exact LC_29 hl0 S hNC hX hbl hbA (i := nI (6 * n)) (hin 1 (by decide)) (hin 2 (by decide)) (hin 3 (by decide)) (hin 4 (by decide)) (hin 5 (by decide)) hcs0 hcs1 hs back
        · refine z_tabIn (v := 30) (tgt := 1816) S dL_law__40 hv (by decide) (by decide) rfl (by decide) ?_
          exact LC_30 hl0 S hNC hX hbl hbA (i := nI (6 * n)) (hin 1 (by decide)) (hin 2 (by decide)) (hin 3 (by decide)) (hin 4 (by decide)) (hin 5 (by decide)) hcs0 hcs1 hs back
        · refine z_tabIn (v := 31) (tgt := 1900) S dL_law__40 hv (by decide) (by decide) rfl (by decide) ?_
          exact LC_31 hl0 S hNC hX hbl hbA (i := nI (6 * n)) (hin 1 (by decide)) (hin 2 (by decide)) (hin 3 (by decide)) (hin 4 (by decide)) (hin 5 (by decide)) hcs0 hcs1 hs back
        · refine z_tabIn (v := 32) (tgt := 1956) S dL_law__40 hv (by decide) (by decide) rfl (by decide) ?_
          exact LC_32 hl0 S hNC hX hbl hbA (i := nI (6 * n)) (hin 1 (by decide)) (hin 2 (by decide)) (hin 3 (by decide)) (hin 4 (by decide)) (hin 5 (by decide)) hcs0 hcs1 hs back
        · refine z_tabIn (v := 33) (tgt := 2012) S dL_law__40 hv (by decide) (by decide) rfl (by decide) ?_
          exact LC_33 hl0 S hNC hX hbl hbA (i := nI (6 * n)) (hin 1 (by decide)) (hin 2 (by decide)) (hin 3 (by decide)) (hin 4 (by decide)) (hin 5 (by decide)) hcs0 hcs1 hs back
        · refine z_tabIn (v := 34) (tgt := 2068) S dL_law__40 hv (by decide) (by decide) rfl (by decide) ?_
          exact LC_34 hl0 S hNC hX hbl hbA (i := nI (6 * n)) (hin 1 (by decide)) (hin 2 (by decide)) (hin 3 (by decide)) (hin 4 (by decide)) (hin 5 (by decide)) hcs0 hcs1 hs back
        · refine z_tabIn (v := 35) (tgt := 2152) S dL_law__40 hv (by decide) (by decide) rfl (by decide) ?_
          exact LC_35 hl0 S hNC hX hbl hbA (i := nI (6 * n)) (hin 1 (by decide)) (hin 2 (by decide)) (hin 3 (by decide)) (hin 4 (by decide)) (hin 5 (by decide)) hcs0 hcs1 hs back
        · refine z_tabIn (v := 36) (tgt := 2236) S dL_law__40 hv (by decide) (by decide) rfl (by decide) ?_
          exact LC_36 hl0 S hNC hX hbl hbA (i := nI (6 * n)) (hin 1 (by decide)) (hin 2 (by decide)) (hin 3 (by decide)) (hin 4 (by decide)) (hin 5 (by decide)) hcs0 hcs1 hs back
        · refine z_tabIn (v := 37) (tgt := 2304) S dL_law__40 hv (by decide) (by decide) rfl (by decide) ?_
          exact LC_37 hl0 S hNC hX hbl hbA (i := nI (6 * n)) (hin 1 (by decide)) (hin 2 (by decide)) (hin 3 (by decide)) (hin 4 (by decide)) (hin 5 (by decide)) hcs0 hcs1 hs back
        · refine z_tabIn (v := 38) (tgt := 2329) S dL_law__40 hv (by decide) (by decide) rfl (by decide) ?_
          exact LC_38 hl0 S hNC hX hbl hbA (i := nI (6 * n)) (hin 1 (by decide)) (hin 2 (by decide)) (hin 3 (by decide)) (hin 4 (by decide)) (hin 5 (by decide)) hcs0 hcs1 hs back
        · refine z_tabIn (v := 39) (tgt := 2342) S dL_law__40 hv (by decide) (by decide) rfl (by decide) ?_
          exact LC_39 hl0 S hNC hX hbl hbA (i := nI (6 * n)) (hin 1 (by decide)) (hin 2 (by decide)) (hin 3 (by decide)) (hin 4 (by decide)) (hin 5 (by decide)) hcs0 hcs1 hs back
        · refine z_tabIn (v := 40) (tgt := 2353) S dL_law__40 hv (by decide) (by decide) rfl (by decide) ?_
          exact LC_40 hl0 S hNC hX hbl hbA (i := nI (6 * n)) (hin 1 (by decide)) (hin 2 (by decide)) (hin 3 (by decide)) (hin 4 (by decide)) (hin 5 (by decide)) hcs0 hcs1 hs back
        · refine z_tabIn (v := 41) (tgt := 2366) S dL_law__40 hv (by decide) (by decide) rfl (by decide) ?_
          exact LC_41 hl0 S hNC hX hbl hbA (i := nI (6 * n)) (hin 1 (by decide)) (hin 2 (by decide)) (hin 3 (by decide)) (hin 4 (by decide)) (hin 5 (by decide)) hcs0 hcs1 hs back
      · have hv2 : (xs (nI (6 * n)).toNatClampNeg &&& 63).toInt = k := by rw [hv]; exact nI_toInt (by omega)
        refine z_tabOut (tgt := 2391) S dL_law__40 (Or.inr (by rw [hv2]; omega)) (by decide) ?_
        refine z_widen (k := c0 + 3 * n + 3) (j := s0 + 18 * n + 18) (by omega) (by omega) ?_
        exact go Mc Mr (hmono n Mc Mr hR) g
