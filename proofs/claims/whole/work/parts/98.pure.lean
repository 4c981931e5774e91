/-! the two begin alike; all that the pure side gives -/
theorem rr_m : MR M0c 4 (M0r.1 110) := by
  refine ⟨?_, ?_, rfl, rfl, rfl, rfl, rfl, rfl, rfl, fun a c ha hc => ?_⟩
  · exact (show ∀ k, k < 45 → i0c 5 k = i0r 110 (12 + k) by decide +kernel)
  · exact (show ∀ k, k < 50 → i0c 6 k = i0r 110 (57 + k) by decide +kernel)
  · have : min (hN (M0r.1 110)) 60 = 0 := by decide +kernel
    omega
theorem rr_i : Inv (M0r.1 110) (500 * 0) := by
  have t0 : tN (M0r.1 110) = 0 := by decide +kernel
  have v0 : vN (M0r.1 110) = 0 := by decide +kernel
  have h0 : min (hN (M0r.1 110)) 60 = 0 := by decide +kernel
  refine ⟨isN_nI (a := 0) (by decide) (by decide), isN_nI (a := 0) (by decide) (by decide), isN_nI (a := 0) (by decide) (by decide), ⟨isN_nI (a := 2) (by decide) (by decide), by decide +kernel⟩, isN_nI (a := 0) (by decide) (by decide), by rw [h0]; rfl, fun t ht => ?_, fun v hv => ?_, fun a ha => ?_⟩
  · omega
  · omega
  · omega
theorem rr_0 : RR LR 0 M0c M0r := by
  have z : ((0 : Int32)).toNatClampNeg = 0 := rfl
  refine ⟨⟨by decide +kernel, by decide +kernel, by decide +kernel, by decide +kernel, by decide +kernel, ?_, ?_⟩, ⟨by decide +kernel, by decide +kernel, by decide +kernel, by decide +kernel, by decide +kernel⟩, ⟨rr_m, rr_i, rfl, Or.inl rfl⟩, ⟨isN_nI (a := 0) (by decide) (by decide), rfl, fun k hk => ?_⟩, rfl, ⟨isN_nI (a := 0) (by decide) (by decide), rfl, fun hh => ?_⟩, ⟨isN_nI (a := 0) (by decide) (by decide), rfl, fun j hj => ?_⟩⟩
  · exact (show ∀ j, j < 12 → kd (r0c 3 j) = 4 ∧ r0c 3 j ≠ 60 ∧ r0c 3 j ≠ r0c 1 3 ∧ r0c 3 j ≠ r0c 1 4 by decide +kernel)
  · exact (show ∀ j k, j < 12 → k < 12 → r0c 3 j = r0c 3 k → j = k from fun j k hj hk h => by
      have e : ∀ j, j < 12 → r0c 3 j = 12 + 4 * j := fun j hj => by unfold r0c; rw [if_pos rfl, if_pos hj]
      rw [e j hj, e k hk] at h
      omega)
  · have hk : k < ((0 : Int32)).toNatClampNeg := hk
    omega
  · exact absurd (show (0 : Int32) = 1 from hh) (by decide)
  · have hj : j < ((0 : Int32)).toNatClampNeg := hj
    omega
theorem steps_all {n : Nat} {Mc Mr : Mm} (hn : n < 512) (h : RR LR n Mc Mr) (k : Nat) (hk : k < 42) (x1 x2 x3 x4 x5 : Int32) : ∃ Nc Nr, stepOK k x1 x2 x3 x4 x5 Mc Mr Nc Nr ∧ RR LR (n + 1) Nc Nr := by
  match k, hk with
  | 0, _ => exact s_0 (x1 := x1) (x2 := x2) (x3 := x3) (x4 := x4) (x5 := x5) LawOK h
  | 1, _ => exact s_1 (x1 := x1) (x2 := x2) (x3 := x3) (x4 := x4) (x5 := x5) LawOK h
  | 2, _ => exact s_2 (x1 := x1) (x2 := x2) (x3 := x3) (x4 := x4) (x5 := x5) LawOK h
  | 3, _ => exact s_3 (x1 := x1) (x2 := x2) (x3 := x3) (x4 := x4) (x5 := x5) h
  | 4, _ => exact s_4 (x1 := x1) (x2 := x2) (x3 := x3) (x4 := x4) (x5 := x5) LawOK h
  | 5, _ => exact s_5 (x1 := x1) (x2 := x2) (x3 := x3) (x4 := x4) (x5 := x5) LawOK h
  | 6, _ => exact s_6 (x1 := x1) (x2 := x2) (x3 := x3) (x4 := x4) (x5 := x5) LawOK h
  | 7, _ => exact s_7 (x1 := x1) (x2 := x2) (x3 := x3) (x4 := x4) (x5 := x5) LawOK h
  | 8, _ => exact s_8 (x1 := x1) (x2 := x2) (x3 := x3) (x4 := x4) (x5 := x5) LawOK h
  | 9, _ => exact s_9 (x1 := x1) (x2 := x2) (x3 := x3) (x4 := x4) (x5 := x5) LawOK h
  | 10, _ => exact s_10 (x1 := x1) (x2 := x2) (x3 := x3) (x4 := x4) (x5 := x5) LawOK h
  | 11, _ => exact s_11 (x1 := x1) (x2 := x2) (x3 := x3) (x4 := x4) (x5 := x5) LawOK h
  | 12, _ => exact s_12 (x1 := x1) (x2 := x2) (x3 := x3) (x4 := x4) (x5 := x5) LawOK h
  | 13, _ => exact s_13 (x1 := x1) (x2 := x2) (x3 := x3) (x4 := x4) (x5 := x5) LawOK h
  | 14, _ => exact s_14 (x1 := x1) (x2 := x2) (x3 := x3) (x4 := x4) (x5 := x5) LawOK hn h
  | 15, _ => exact s_15 (x1 := x1) (x2 := x2) (x3 := x3) (x4 := x4) (x5 := x5) LawOK h
  | 16, _ => exact s_16 (x1 := x1) (x2 := x2) (x3 := x3) (x4 := x4) (x5 := x5) LawOK h
  | 17, _ => exact s_17 (x1 := x1) (x2 := x2) (x3 := x3) (x4 := x4) (x5 := x5) LawOK h
  | 18, _ => exact s_18 (x1 := x1) (x2 := x2) (x3 := x3) (x4 := x4) (x5 := x5) LawOK h
  | 19, _ => exact s_19 (x1 := x1) (x2 := x2) (x3 := x3) (x4 := x4) (x5 := x5) LawOK h
  | 20, _ => exact s_20 (x1 := x1) (x2 := x2) (x3 := x3) (x4 := x4) (x5 := x5) LawOK h
  | 21, _ => exact s_21 (x1 := x1) (x2 := x2) (x3 := x3) (x4 := x4) (x5 := x5) LawOK h
  | 22, _ => exact s_22 (x1 := x1) (x2 := x2) (x3 := x3) (x4 := x4) (x5 := x5) LawOK h
  | 23, _ => exact s_23 (x1 := x1) (x2 := x2) (x3 := x3) (x4 := x4) (x5 := x5) LawOK h
  | 24, _ => exact s_24 (x1 := x1) (x2 := x2) (x3 := x3) (x4 := x4) (x5 := x5) LawOK h
  | 25, _ => exact s_25 (x1 := x1) (x2 := x2) (x3 := x3) (x4 := x4) (x5 := x5) LawOK h
  | 26, _ => exact s_26 (x1 := x1) (x2 := x2) (x3 := x3) (x4 := x4) (x5 := x5) LawOK h
  | 27, _ => exact s_27 (x1 := x1) (x2 := x2) (x3 := x3) (x4 := x4) (x5 := x5) LawOK h
  | 28, _ => exact s_28 (x1 := x1) (x2 := x2) (x3 := x3) (x4 := x4) (x5 := x5) LawOK h
  | 29, _ => exact s_29 (x1 := x1) (x2 := x2) (x3 := x3) (x4 := x4) (x5 := x5) LawOK hn h
  | 30, _ => exact s_30 (x1 := x1) (x2 := x2) (x3 := x3) (x4 := x4) (x5 := x5) LawOK hn h
  | 31, _ => exact s_31 (x1 := x1) (x2 := x2) (x3 := x3) (x4 := x4) (x5 := x5) LawOK hn h
  | 32, _ => exact s_32 (x1 := x1) (x2 := x2) (x3 := x3) (x4 := x4) (x5 := x5) LawOK h
  | 33, _ => exact s_33 (x1 := x1) (x2 := x2) (x3 := x3) (x4 := x4) (x5 := x5) LawOK hn h
  | 34, _ => exact s_34 (x1 := x1) (x2 := x2) (x3 := x3) (x4 := x4) (x5 := x5) LawOK hn h
  | 35, _ => exact s_35 (x1 := x1) (x2 := x2) (x3 := x3) (x4 := x4) (x5 := x5) LawOK hn h
  | 36, _ => exact s_36 (x1 := x1) (x2 := x2) (x3 := x3) (x4 := x4) (x5 := x5) LawOK hn h
  | 37, _ => exact s_37 (x1 := x1) (x2 := x2) (x3 := x3) (x4 := x4) (x5 := x5) LawOK h
  | 38, _ => exact s_38 (x1 := x1) (x2 := x2) (x3 := x3) (x4 := x4) (x5 := x5) LawOK h
  | 39, _ => exact s_39 (x1 := x1) (x2 := x2) (x3 := x3) (x4 := x4) (x5 := x5) LawOK h
  | 40, _ => exact s_40 (x1 := x1) (x2 := x2) (x3 := x3) (x4 := x4) (x5 := x5) LawOK h
  | 41, _ => exact s_41 (x1 := x1) (x2 := x2) (x3 := x3) (x4 := x4) (x5 := x5) LawOK hn h
  | k + 42, hk => omega
theorem pure_all : ∃ R : Nat → Mm → Mm → Prop, R 0 M0c M0r ∧ (∀ n Mc Mr, R n Mc Mr → R (n + 1) Mc Mr) ∧ (∀ n Mc Mr, n < 512 → R n Mc Mr → ∀ k, k < 42 → ∀ x1 x2 x3 x4 x5, ∃ Nc Nr, stepOK k x1 x2 x3 x4 x5 Mc Mr Nc Nr ∧ R (n + 1) Nc Nr) :=
  ⟨RR LR, rr_0, fun n Mc Mr h => RR_succ h, fun n Mc Mr hn h k hk x1 x2 x3 x4 x5 => steps_all hn h k hk x1 x2 x3 x4 x5⟩
