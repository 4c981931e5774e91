/-! image, back, undo, remember -/
section MUT3
variable {LR : Mm → Nat → (Nat → Int32) → Prop} {LK : (Nat → Int32) → Nat → Nat → Int32 → Int32} {n : Nat} {M N Mc Mr Nc Nr : Mm} {q L B a d c : Nat} {m m2 : Nat → Int32} {x x1 x2 x3 x4 x5 : Int32}
theorem eqL_of (h : ∀ k, k < 807 → m2 k = m k) : eqL m m2 := ⟨h 1 (by decide), h 2 (by decide), fun k h1 h2 => h k h2⟩
theorem kd60 : kd 60 = 4 := by decide +kernel
theorem kd76 : kd 76 = 2 := by decide +kernel
theorem s_39 (HL : LSpec LR LK) (h : RR LR n Mc Mr) : ∃ Nc Nr, so_39 x1 x2 x3 x4 x5 Mc Mr Nc Nr ∧ RR LR (n + 1) Nc Nr := by
  have h := RR_succ h
  obtain ⟨⟨k1, k2, k3, k4, k5, k6, k7⟩, ⟨j1, j2, j3, j4, j5⟩, ⟨a1, a2, a3⟩, ⟨b1, b2, b3⟩, c1, ⟨d1, d2, d3⟩, ⟨e1, e2, e3⟩⟩ := h
  have m1 := md4 k1
  have m2 := md4 k2
  have l1 := (lnL j1).2.2.2.2.2
  obtain ⟨N1, p1, p2, p3⟩ := copyC kd60 k1 (by omega) a1
  have r5 : N1.2.2 1 5 = Mc.2.2 1 5 := by rw [(p3 1 (by simp)).2.2]
  have r1 : LR N1 (Mc.2.2 1 5) (Mr.1 110) := HL.1 _ _ _ _ a3 (fun i h1 h2 => (p3 i (by simp; omega)).1)
  obtain ⟨N2, s1, s2, s3⟩ := copyL HL kd76 j1 (by omega) r1
  obtain ⟨K, t1, t2, t3⟩ := cpR (f := f_X10_image_L7) (i := 111) (j := 110) (o := 0) (N := 0) (T := 807) (by decide) (by decide) (fun M k hk => by unfold f_X10_image_L7; simp (disch := omega) only [gI, gR, sA_nI, gA_nI, at_nI, put_nI, ibs_nI, nI_add, nI_mulI, nI_subI, nI_neg1, nI_leI, nI_ltI, nI_eq, nI_ne_m1, nI_m1_ne, nI_nlt0, Option.bind_some, bnd_some, iteP, iteN, reduceIte, if_true, if_false, eq_self, Bool.false_eq_true, l_0, l_1, l_2, l_3, l_4, l_5, l_6, l_7, l_8, l_9, l_10, l_11, l_12, l_13, l_14, l_15, l_16, l_17, l_18, l_19, l_20, l_24, l_30, l_31, l_40, l_45, l_50, l_57, l_58, l_59, l_60, l_61, l_62, l_63, l_64, l_90, l_99, l_100, l_107, l_108, l_109, l_110, l_111, l_299, l_300, l_400, l_407, l_807, Nat.zero_add]) (fun M => by unfold f_X10_image_L7; simp (disch := omega) only [gI, gR, sA_nI, gA_nI, at_nI, put_nI, ibs_nI, nI_add, nI_mulI, nI_subI, nI_neg1, nI_leI, nI_ltI, nI_eq, nI_ne_m1, nI_m1_ne, nI_nlt0, Option.bind_some, bnd_some, iteP, iteN, reduceIte, if_true, if_false, eq_self, Bool.false_eq_true, l_0, l_1, l_2, l_3, l_4, l_5, l_6, l_7, l_8, l_9, l_10, l_11, l_12, l_13, l_14, l_15, l_16, l_17, l_18, l_19, l_20, l_24, l_30, l_31, l_40, l_45, l_50, l_57, l_58, l_59, l_60, l_61, l_62, l_63, l_64, l_90, l_99, l_100, l_107, l_108, l_109, l_110, l_111, l_299, l_300, l_400, l_407, l_807]) (sI Mr 109 0 0)
  have t4 : ∀ k, k < 807 → K.1 111 k = Mr.1 110 k := fun k hk => by
    rw [t3 k, if_pos (by omega)]
    show (sI Mr 109 0 0).1 110 (0 + (k - 0)) = _
    rw [sI_fn (by decide), Nat.zero_add, Nat.sub_zero]
  refine ⟨sI N2 1 9 1, sI K 109 3 1, ⟨?_, ?_⟩, ?_⟩
  · unfold f_X9_image
    simp only [Option.bind_some, show gR Mc 1 3 = Mc.2.2 1 3 from rfl, if_pos k1, p1, show gR N1 1 5 = N1.2.2 1 5 from rfl, r5, if_pos j1, s1]
  · unfold f_X10_image
    rw [Option.bind_some, show ((M' : Mm) → loop FU (fun a_3 => f_X10_image_L7 a_3.1 a_3.2) (M', 0) = loop FU (fun a_3 => f_X10_image_L7 a_3.1 a_3.2) (M', nI 0)) from fun _ => rfl, t1]
    rfl
  · have f : ∀ i, i ≠ 1 → (i < 60 ∨ 63 < i) → (i < 76 ∨ 80 < i) → (sI N2 1 9 1).1 i = Mc.1 i := fun i h1 h2 h3 => by
      rw [sI_fn h1, (s3 i (by simp; omega)).1, (p3 i (by simp; omega)).1]
    have f1 : ∀ b, b ≠ 9 → (sI N2 1 9 1).1 1 b = Mc.1 1 b := fun b hb => by
      rw [sI_at, if_neg (by omega), (s3 1 (by simp)).1, (p3 1 (by simp)).1]
    have g2 : (sI N2 1 9 1).2.2 1 = Mc.2.2 1 ∧ (sI N2 1 9 1).2.2 3 = Mc.2.2 3 := by
      show N2.2.2 1 = _ ∧ N2.2.2 3 = _
      rw [(s3 1 (by simp)).2.2, (p3 1 (by simp)).2.2, (s3 3 (by simp)).2.2, (p3 3 (by simp)).2.2]
      exact ⟨rfl, rfl⟩
    have r : ∀ i, i ≠ 109 → i ≠ 111 → (sI K 109 3 1).1 i = Mr.1 i := fun i h1 h2 => by rw [sI_fn h1, (t2 i (by simpa using h2)).1, sI_fn h1]
    have r1 : ∀ b, b ≠ 3 → b ≠ 0 → (sI K 109 3 1).1 109 b = Mr.1 109 b := fun b h1 h2 => by
      rw [sI_at, if_neg (by omega), (t2 109 (by simp)).1, sI_at, if_neg (by omega)]
    have r2 : (sI K 109 3 1).1 109 3 = nI 1 := by rw [sI_at, if_pos ⟨rfl, rfl⟩]; rfl
    have r3 : (sI K 109 3 1).1 111 = K.1 111 := sI_fn (by decide)
    unfold RR
    rw [g2.1, g2.2, f1 1 (by decide), f1 2 (by decide), f1 11 (by decide), f 2 (by decide) (by decide) (by decide), r 110 (by decide) (by decide), r 113 (by decide) (by decide), r 114 (by decide) (by decide), r1 8 (by decide) (by decide), r1 12 (by decide) (by decide), r1 6 (by decide) (by decide), r2, r3]
    refine ⟨⟨k1, k2, k3, k4, k5, k6, k7⟩, ⟨j1, j2, j3, j4, j5⟩, ⟨a1.fr (fun i h1 h2 => f i (by omega) (by omega) (by omega)), a2, HL.1 _ _ _ _ a3 (fun i h1 h2 => f i (by omega) (by omega) (by omega))⟩, ⟨b1, b2, b3⟩, c1, ⟨isN_nI (by decide) (by decide), ?_, fun _ => ⟨?_, ?_, ?_⟩⟩, ⟨e1, e2, fun j hj => ?_⟩⟩
    · rw [sI_at, if_pos ⟨rfl, rfl⟩]; rfl
    · exact (p2.cg (m2 := K.1 111) (fun k hk => t4 k (by omega))).fr (fun i h1 h2 => by rw [sI_fn (by omega), (s3 i (by simp; omega)).1])
    · exact a2.cg (fun k hk => t4 k (by omega))
    · exact HL.2.1 _ _ _ _ (HL.1 _ _ _ _ s2 (fun i h1 h2 => sI_fn (by omega))) (eqL_of t4)
    · obtain ⟨x1, x2, x3, x4⟩ := e3 j hj
      have hj2 : j < 12 := by have := e1.2; omega
      have := md4 (k6 j hj2).1
      have := (k6 j hj2).2.1
      exact ⟨x1.fr (fun i h1 h2 => f i (by omega) (by omega) (by omega)), x2, x3, x4⟩
theorem s_40 (HL : LSpec LR LK) (h : RR LR n Mc Mr) : ∃ Nc Nr, so_40 x1 x2 x3 x4 x5 Mc Mr Nc Nr ∧ RR LR (n + 1) Nc Nr := by
  have h0 := h
  have h := RR_succ h
  obtain ⟨⟨k1, k2, k3, k4, k5, k6, k7⟩, ⟨j1, j2, j3, j4, j5⟩, ⟨a1, a2, a3⟩, ⟨b1, b2, b3⟩, c1, ⟨d1, d2, d3⟩, ⟨e1, e2, e3⟩⟩ := h
  have g9 : gI Mc 1 9 = Mr.1 109 3 := d2
  have r3 : gI (sI Mr 109 0 0) 109 3 = Mr.1 109 3 := rfl
  by_cases hz : Mr.1 109 3 = 0
  · exact ⟨Mc, sI Mr 109 0 0, ⟨false, by unfold f_X9_back; rw [g9, if_pos hz], by unfold f_X10_back; rw [Option.bind_some, r3, if_pos hz]⟩, RR_q HL h0 KpC.rf ⟨rfl, rfl⟩ KpR.t⟩
  · have hone : Mr.1 109 3 = 1 := by
      have h1 := d1.1
      have h2 := d1.2
      generalize (Mr.1 109 3).toNatClampNeg = z at h1 h2
      have : z = 0 ∨ z = 1 := by omega
      rcases this with rfl | rfl
      · exact absurd h1 hz
      · exact h1
    obtain ⟨y1, y2, y3⟩ := d3 hone
    have m1 := md4 k1
    have m2 := md4 k2
    have l1 := (lnL j1).2.2.2.2.2
    obtain ⟨N1, p1, p2, p3⟩ := copyC k1 kd60 (by omega) y1
    have r5 : N1.2.2 1 5 = Mc.2.2 1 5 := by rw [(p3 1 (by simp; omega)).2.2]
    have r1 : LR N1 76 (Mr.1 111) := HL.1 _ _ _ _ y3 (fun i h1 h2 => (p3 i (by simp; omega)).1)
    obtain ⟨N2, s1, s2, s3⟩ := copyL HL j1 kd76 (by omega) r1
    obtain ⟨K, t1, t2, t3⟩ := cpR (f := f_X10_back_L16) (i := 110) (j := 111) (o := 0) (N := 0) (T := 807) (by decide) (by decide) (fun M k hk => by unfold f_X10_back_L16; simp (disch := omega) only [gI, gR, sA_nI, gA_nI, at_nI, put_nI, ibs_nI, nI_add, nI_mulI, nI_subI, nI_neg1, nI_leI, nI_ltI, nI_eq, nI_ne_m1, nI_m1_ne, nI_nlt0, Option.bind_some, bnd_some, iteP, iteN, reduceIte, if_true, if_false, eq_self, Bool.false_eq_true, l_0, l_1, l_2, l_3, l_4, l_5, l_6, l_7, l_8, l_9, l_10, l_11, l_12, l_13, l_14, l_15, l_16, l_17, l_18, l_19, l_20, l_24, l_30, l_31, l_40, l_45, l_50, l_57, l_58, l_59, l_60, l_61, l_62, l_63, l_64, l_90, l_99, l_100, l_107, l_108, l_109, l_110, l_111, l_299, l_300, l_400, l_407, l_807, Nat.zero_add]) (fun M => by unfold f_X10_back_L16; simp (disch := omega) only [gI, gR, sA_nI, gA_nI, at_nI, put_nI, ibs_nI, nI_add, nI_mulI, nI_subI, nI_neg1, nI_leI, nI_ltI, nI_eq, nI_ne_m1, nI_m1_ne, nI_nlt0, Option.bind_some, bnd_some, iteP, iteN, reduceIte, if_true, if_false, eq_self, Bool.false_eq_true, l_0, l_1, l_2, l_3, l_4, l_5, l_6, l_7, l_8, l_9, l_10, l_11, l_12, l_13, l_14, l_15, l_16, l_17, l_18, l_19, l_20, l_24, l_30, l_31, l_40, l_45, l_50, l_57, l_58, l_59, l_60, l_61, l_62, l_63, l_64, l_90, l_99, l_100, l_107, l_108, l_109, l_110, l_111, l_299, l_300, l_400, l_407, l_807]) (sI Mr 109 0 0)
    have t4 : ∀ k, k < 807 → K.1 110 k = Mr.1 111 k := fun k hk => by
      rw [t3 k, if_pos (by omega)]
      show (sI Mr 109 0 0).1 111 (0 + (k - 0)) = _
      rw [sI_fn (by decide), Nat.zero_add, Nat.sub_zero]
    refine ⟨sI N2 1 11 0, sI K 109 6 0, ⟨true, ?_, ?_⟩, ?_⟩
    · unfold f_X9_back
      rw [g9, if_neg hz]
      simp only [Option.bind_some, show gR Mc 1 3 = Mc.2.2 1 3 from rfl, if_pos k1, p1, show gR N1 1 5 = N1.2.2 1 5 from rfl, r5, if_pos j1, s1]
    · unfold f_X10_back
      rw [Option.bind_some, r3, if_neg hz, show ((M' : Mm) → loop FU (fun a_3 => f_X10_back_L16 a_3.1 a_3.2) (M', 0) = loop FU (fun a_3 => f_X10_back_L16 a_3.1 a_3.2) (M', nI 0)) from fun _ => rfl, t1]
      rfl
    · have f : ∀ i, i ≠ 1 → (i < Mc.2.2 1 3 ∨ Mc.2.2 1 3 + 3 < i) → (i < Mc.2.2 1 5 ∨ Mc.2.2 1 5 + 4 < i) → (sI N2 1 11 0).1 i = Mc.1 i := fun i h1 h2 h3 => by
        rw [sI_fn h1, (s3 i (by simp; omega)).1, (p3 i (by simp; omega)).1]
      have f1 : ∀ b, b ≠ 11 → (sI N2 1 11 0).1 1 b = Mc.1 1 b := fun b hb => by
        rw [sI_at, if_neg (by omega), (s3 1 (by simp; omega)).1, (p3 1 (by simp; omega)).1]
      have g2 : (sI N2 1 11 0).2.2 1 = Mc.2.2 1 ∧ (sI N2 1 11 0).2.2 3 = Mc.2.2 3 := by
        show N2.2.2 1 = _ ∧ N2.2.2 3 = _
        rw [(s3 1 (by simp; omega)).2.2, (p3 1 (by simp; omega)).2.2, (s3 3 (by simp; omega)).2.2, (p3 3 (by simp; omega)).2.2]
        exact ⟨rfl, rfl⟩
      have r : ∀ i, i ≠ 109 → i ≠ 110 → (sI K 109 6 0).1 i = Mr.1 i := fun i h1 h2 => by rw [sI_fn h1, (t2 i (by simpa using h2)).1, sI_fn h1]
      have r1 : ∀ b, b ≠ 6 → b ≠ 0 → (sI K 109 6 0).1 109 b = Mr.1 109 b := fun b h1 h2 => by
        rw [sI_at, if_neg (by omega), (t2 109 (by simp)).1, sI_at, if_neg (by omega)]
      have r2 : (sI K 109 6 0).1 109 6 = nI 0 := by rw [sI_at, if_pos ⟨rfl, rfl⟩]; rfl
      have r3 : (sI K 109 6 0).1 110 = K.1 110 := sI_fn (by decide)
      unfold RR
      rw [g2.1, g2.2, f1 1 (by decide), f1 2 (by decide), f1 9 (by decide), f 2 (by decide) (by omega) (by omega), r 111 (by decide) (by decide), r 113 (by decide) (by decide), r 114 (by decide) (by decide), r1 8 (by decide) (by decide), r1 12 (by decide) (by decide), r1 3 (by decide) (by decide), r2, r3]
      refine ⟨⟨k1, k2, k3, k4, k5, k6, k7⟩, ⟨j1, j2, j3, j4, j5⟩, ⟨?_, ?_, ?_⟩, ⟨b1, b2, b3⟩, c1, ⟨d1, d2, fun _ => ⟨?_, y2, ?_⟩⟩, ⟨isN_nI (by decide) (by decide), ?_, fun j hj => ?_⟩⟩
      · exact (p2.cg (m2 := K.1 110) (fun k hk => t4 k (by omega))).fr (fun i h1 h2 => by rw [sI_fn (by omega), (s3 i (by simp; omega)).1])
      · exact y2.cg (fun k hk => t4 k (by omega))
      · exact HL.2.1 _ _ _ _ (HL.1 _ _ _ _ s2 (fun i h1 h2 => sI_fn (by omega))) (eqL_of t4)
      · exact y1.fr (fun i h1 h2 => f i (by omega) (by omega) (by omega))
      · exact HL.1 _ _ _ _ y3 (fun i h1 h2 => f i (by omega) (by omega) (by omega))
      · rw [sI_at, if_pos ⟨rfl, rfl⟩]; rfl
      · rw [nI_clamp (by decide)] at hj; omega
end MUT3
