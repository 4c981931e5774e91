/-! remember -/
section REM
variable {LR : Mm → Nat → (Nat → Int32) → Prop} {LK : (Nat → Int32) → Nat → Nat → Int32 → Int32} {n : Nat} {M N Mc Mr Nc Nr : Mm} {q L B a d c : Nat} {m m2 : Nat → Int32} {x x1 x2 x3 x4 x5 : Int32}
/-- room left: the museum is put behind the others -/
theorem remJ (HL : LSpec LR LK) (h : RR LR n Mc Mr) {A : Nat} (hA : Mr.1 109 6 = nI A) (hA2 : A < 12) : ∃ Nc Nr, f_X9_remember_J16 Mc = some Nc ∧ f_X10_remembers_J50 Mr = some Nr ∧ RR LR n Nc Nr ∧ Nr.1 110 = Mr.1 110 ∧ Nr.1 109 0 = Mr.1 109 0 ∧ Nc.2.2 1 = Mc.2.2 1 := by
  obtain ⟨⟨k1, k2, k3, k4, k5, k6, k7⟩, ⟨j1, j2, j3, j4, j5⟩, ⟨a1, a2, a3⟩, ⟨b1, b2, b3⟩, c1, ⟨d1, d2, d3⟩, ⟨e1, e2, e3⟩⟩ := h
  have g11 : gI Mc 1 11 = nI A := e2.trans hA
  rw [hA, nI_clamp (by omega)] at e3
  obtain ⟨kA1, kA2, kA3, kA4⟩ := k6 A hA2
  have m1 := md4 k1
  have m2 := md4 k2
  have m3 := md4 kA1
  have l1 := (lnL j1).2.2.2.2.2
  have r6 : gI Mr 109 6 = nI A := hA
  obtain ⟨N1, p1, p2, p3⟩ := copyC kA1 k1 kA3 a1
  obtain ⟨K, t1, t2, t3⟩ := cpR2 (f := f_X10_remembers_L52) (i := 113) (j := 110) (o := 407 * A) (N := 0) (T := 407) (by decide) (by decide) Mr (fun M k hF hk => by
    have g6 : M.1 109 6 = nI A := by rw [(hF 109 (by simp)).1]; exact r6
    unfold f_X10_remembers_L52
    simp (disch := omega) only [gI, gR, sA_nI, gA_nI, at_nI, put_nI, ibs_nI, nI_add, nI_mulI, nI_subI, nI_neg1, nI_leI, nI_ltI, nI_eq, nI_ne_m1, nI_m1_ne, nI_nlt0, Option.bind_some, bnd_some, iteP, iteN, reduceIte, if_true, if_false, eq_self, Bool.false_eq_true, l_0, l_1, l_2, l_3, l_4, l_5, l_6, l_7, l_8, l_9, l_10, l_11, l_12, l_13, l_14, l_15, l_16, l_17, l_18, l_19, l_20, l_24, l_30, l_31, l_40, l_45, l_50, l_57, l_58, l_59, l_60, l_61, l_62, l_63, l_64, l_90, l_99, l_100, l_107, l_108, l_109, l_110, l_111, l_299, l_300, l_400, l_407, l_807, Nat.zero_add, l407, gI, g6]) (fun M => by unfold f_X10_remembers_L52; simp (disch := omega) only [gI, gR, sA_nI, gA_nI, at_nI, put_nI, ibs_nI, nI_add, nI_mulI, nI_subI, nI_neg1, nI_leI, nI_ltI, nI_eq, nI_ne_m1, nI_m1_ne, nI_nlt0, Option.bind_some, bnd_some, iteP, iteN, reduceIte, if_true, if_false, eq_self, Bool.false_eq_true, l_0, l_1, l_2, l_3, l_4, l_5, l_6, l_7, l_8, l_9, l_10, l_11, l_12, l_13, l_14, l_15, l_16, l_17, l_18, l_19, l_20, l_24, l_30, l_31, l_40, l_45, l_50, l_57, l_58, l_59, l_60, l_61, l_62, l_63, l_64, l_90, l_99, l_100, l_107, l_108, l_109, l_110, l_111, l_299, l_300, l_400, l_407, l_807, l407])
  have g6K : gI K 109 6 = nI A := by show K.1 109 6 = _; rw [(t2 109 (by simp)).1]; exact r6
  have g11N : gI N1 1 11 = nI A := by show N1.1 1 11 = _; rw [(p3 1 (by simp; omega)).1]; exact g11
  refine ⟨sI N1 1 11 (nI (A + 1)), sI K 109 6 (nI (A + 1)), ?_, ?_, ?_, ?_, ?_, ?_⟩
  · unfold f_X9_remember_J16
    rw [g11, if_neg (nI_pos (by omega)), if_neg (by rw [l12, nI_leI (by omega) (by omega)]; omega), if_pos (ibs_nI (by omega) (by decide)), gE_nI (by omega), Option.bind_some, if_pos kA1, Option.bind_some, show gR Mc 1 3 = Mc.2.2 1 3 from rfl, if_pos k1, p1, Option.bind_some, g11N, l_1, nI_add]
    rfl
  · unfold f_X10_remembers_J50
    rw [show ((M' : Mm) → loop FU (fun a_3 => f_X10_remembers_L52 a_3.1 a_3.2) (M', 0) = loop FU (fun a_3 => f_X10_remembers_L52 a_3.1 a_3.2) (M', nI 0)) from fun _ => rfl, t1, Option.bind_some, g6K, l_1, nI_add]
    rfl
  · have f : ∀ i, i ≠ 1 → (i < Mc.2.2 3 A ∨ Mc.2.2 3 A + 3 < i) → (sI N1 1 11 (nI (A + 1))).1 i = Mc.1 i := fun i h1 h2 => by
      rw [sI_fn h1, (p3 i (by simp; omega)).1]
    have f1 : ∀ b, b ≠ 11 → (sI N1 1 11 (nI (A + 1))).1 1 b = Mc.1 1 b := fun b hb => by
      rw [sI_at, if_neg (by omega), (p3 1 (by simp; omega)).1]
    have f11 : (sI N1 1 11 (nI (A + 1))).1 1 11 = nI (A + 1) := by rw [sI_at, if_pos ⟨rfl, rfl⟩]
    have g2 : (sI N1 1 11 (nI (A + 1))).2.2 1 = Mc.2.2 1 ∧ (sI N1 1 11 (nI (A + 1))).2.2 3 = Mc.2.2 3 := by
      show N1.2.2 1 = _ ∧ N1.2.2 3 = _
      rw [(p3 1 (by simp; omega)).2.2, (p3 3 (by simp; omega)).2.2]
      exact ⟨rfl, rfl⟩
    have r : ∀ i, i ≠ 109 → i ≠ 113 → (sI K 109 6 (nI (A + 1))).1 i = Mr.1 i := fun i h1 h2 => by rw [sI_fn h1, (t2 i (by simpa using h2)).1]
    have r1 : ∀ b, b ≠ 6 → (sI K 109 6 (nI (A + 1))).1 109 b = Mr.1 109 b := fun b h1 => by
      rw [sI_at, if_neg (by omega), (t2 109 (by simp)).1]
    have r2 : (sI K 109 6 (nI (A + 1))).1 109 6 = nI (A + 1) := by rw [sI_at, if_pos ⟨rfl, rfl⟩]
    have r3 : (sI K 109 6 (nI (A + 1))).1 113 = K.1 113 := sI_fn (by decide)
    unfold RR
    rw [g2.1, g2.2, f1 1 (by decide), f1 2 (by decide), f1 9 (by decide), f11, f 2 (by decide) (by omega), r 110 (by decide) (by decide), r 111 (by decide) (by decide), r3, r 114 (by decide) (by decide), r1 8 (by decide), r1 12 (by decide), r1 3 (by decide), r2]
    refine ⟨⟨k1, k2, k3, k4, k5, k6, k7⟩, ⟨j1, j2, j3, j4, j5⟩, ⟨a1.fr (fun i h1 h2 => f i (by omega) (by omega)), a2, HL.1 _ _ _ _ a3 (fun i h1 h2 => f i (by omega) (by omega))⟩, ⟨b1, b2, b3⟩, c1, ⟨d1, d2, fun hh => ?_⟩, ⟨isN_nI (by omega) (by decide), rfl, fun j hj => ?_⟩⟩
    · obtain ⟨x1, x2, x3⟩ := d3 hh
      exact ⟨x1.fr (fun i h1 h2 => f i (by omega) (by omega)), x2, HL.1 _ _ _ _ x3 (fun i h1 h2 => f i (by omega) (by omega))⟩
    · rw [nI_clamp (by omega)] at hj
      have hq := k6 j (by omega)
      have := md4 hq.1
      by_cases ej : j = A
      · subst ej
        have hE : eqM (Mr.1 110) (fun k => K.1 113 (407 * j + k)) := fun k hk => by
          show K.1 113 (407 * j + k) = _
          rw [t3, if_pos (by omega), show 0 + (407 * j + k - 407 * j) = k by omega]
        refine ⟨(p2.cg hE).fr (fun i h1 h2 => sI_fn (show i ≠ 1 by omega)), a2.cg hE, hE 1 (by decide), hE 2 (by decide)⟩
      · obtain ⟨x1, x2, x3, x4⟩ := e3 j (by omega)
        have hne : Mc.2.2 3 j ≠ Mc.2.2 3 A := fun e => ej (k7 j A (by omega) hA2 e)
        have hE : ∀ k, k < 407 → K.1 113 (407 * j + k) = Mr.1 113 (407 * j + k) := fun k hk => by
          rw [t3, if_neg (by omega)]
        exact ⟨(x1.cg (m2 := fun k => K.1 113 (407 * j + k)) hE).fr (fun i h1 h2 => f i (by omega) (by omega)), x2.cg hE, (hE 1 (by decide)).trans x3, (hE 2 (by decide)).trans x4⟩
  · rw [sI_fn (by decide), (t2 110 (by simp)).1]
  · rw [sI_at, if_neg (by omega), (t2 109 (by simp)).1]
  · show N1.2.2 1 = _
    rw [(p3 1 (by simp; omega)).2.2]
/-- no room left: the oldest is dropped -/
theorem forgetC (hk6 : ∀ j, j < 12 → kd (Mc.2.2 3 j) = 4) : Tr (f_X9_forgetOldest Mc) (fun N => N.1 = (sI Mc 1 11 (nI 11)).1 ∧ (∀ i, i ≠ 3 → N.2.2 i = Mc.2.2 i) ∧ ∀ j, j < 12 → N.2.2 3 j = Mc.2.2 3 ((j + 1) % 12)) := by
  unfold f_X9_forgetOldest
  have i0 : ibs (0 : Int32) 12 = true := by decide
  have i11 : ibs ((12 : Int32) - 1) 12 = true := by decide
  rw [if_pos i0, Option.bind_some, show gE Mc 3 0 = Mc.2.2 3 0 from rfl, if_pos (hk6 0 (by decide))]
  refine Tr.bind (Q := fun N => N.1 = Mc.1 ∧ (∀ i, i ≠ 3 → N.2.2 i = Mc.2.2 i) ∧ ∀ j, N.2.2 3 j = if j < 11 then Mc.2.2 3 (j + 1) else Mc.2.2 3 j) ?_ (fun N hN => ?_)
  · refine lp0 (fun i (N : Mm) => (N, nI (i + 1))) 11 (fun t N => N.1 = Mc.1 ∧ (∀ i, i ≠ 3 → N.2.2 i = Mc.2.2 i) ∧ ∀ j, N.2.2 3 j = if j < t then Mc.2.2 3 (j + 1) else Mc.2.2 3 j) (by decide) Mc rfl ⟨rfl, fun _ _ => rfl, fun j => by rw [if_neg (by omega)]⟩ (fun t N ht hP => ?_) (fun N hP => ?_)
    · obtain ⟨h1, h2, h3⟩ := hP
      have h33 : N.2.2 3 (t + 1) = Mc.2.2 3 (t + 1) := by rw [h3, if_neg (by omega)]
      show Tr (f_X9_forgetOldest_L9 N (Mc.2.2 3 0) (nI (t + 1))) _
      unfold f_X9_forgetOldest_L9
      rw [l12, if_neg (show ¬ nI 12 ≤ nI (t + 1) by rw [nI_leI (by omega) (by omega)]; omega), if_pos (ibs_nI (by omega) (by decide)), Option.bind_some, gE_nI (by omega), h33, if_pos (hk6 _ (by omega)), show nI (t + 1) - 1 = nI t from nI_subI (a := t + 1) (b := 1) (by omega), if_pos (ibs_nI (by omega) (by decide)), Option.bind_some, sE_nI (by omega)]
      refine Tr.some (Or.inl ⟨sR N 3 t (Mc.2.2 3 (t + 1)), by rw [l_1, nI_add], h1, fun i hi => ?_, fun j => ?_⟩)
      · rw [← h2 i hi]; exact up2_fn hi
      · rw [sR_at, h3]
        by_cases e : j = t
        · subst e; rw [if_pos ⟨rfl, rfl⟩, if_pos (by omega)]
        · rw [if_neg (by omega)]
          by_cases e2 : j < t
          · rw [if_pos e2, if_pos (by omega)]
          · rw [if_neg e2, if_neg (by omega)]
    · show Tr (f_X9_forgetOldest_L9 N (Mc.2.2 3 0) (nI (11 + 1))) _
      unfold f_X9_forgetOldest_L9
      rw [if_pos (show (12 : Int32) ≤ nI (11 + 1) by decide)]
      exact Tr.some ⟨_, rfl, hP⟩
  · obtain ⟨h1, h2, h3⟩ := hN
    rw [if_pos i11, Option.bind_some, show ((12 : Int32) - 1) = nI 11 from rfl, sE_nI (by decide), Option.bind_some]
    refine Tr.some ⟨?_, fun i hi => ?_, fun j hj => ?_⟩
    · show up2 N.1 1 11 (nI 11) = up2 Mc.1 1 11 (nI 11)
      rw [h1]
    · rw [← h2 i hi]; exact up2_fn hi
    · show (sR N 3 11 (Mc.2.2 3 0)).2.2 3 j = _
      rw [sR_at, h3]
      by_cases e : j = 11
      · subst e; rfl
      · rw [if_neg (by omega), if_pos (by omega), Nat.mod_eq_of_lt (by omega)]
theorem shiftR : Tr (loop FU (fun a_5 => f_X10_remembers_L11 a_5.1 a_5.2) (Mr, 0)) (fun N => Fr [113] Mr N ∧ ∀ k, k < 4477 → N.1 113 k = Mr.1 113 (k + 407)) := by
  refine lp0 (fun i (N : Mm) => (N, nI i)) 4477 (fun t N => Fr [113] Mr N ∧ ∀ k, N.1 113 k = if k < t then Mr.1 113 (k + 407) else Mr.1 113 k) (by decide) Mr rfl ⟨Fr.rf, fun k => by rw [if_neg (by omega)]⟩ (fun t N ht hP => ?_) (fun N hP => ?_)
  · obtain ⟨h1, h3⟩ := hP
    unfold f_X10_remembers_L11
    simp (disch := omega) only [gI, gR, sA_nI, gA_nI, at_nI, put_nI, ibs_nI, nI_add, nI_mulI, nI_subI, nI_neg1, nI_leI, nI_ltI, nI_eq, nI_ne_m1, nI_m1_ne, nI_nlt0, Option.bind_some, bnd_some, iteP, iteN, reduceIte, if_true, if_false, eq_self, Bool.false_eq_true, l_0, l_1, l_2, l_3, l_4, l_5, l_6, l_7, l_8, l_9, l_10, l_11, l_12, l_13, l_14, l_15, l_16, l_17, l_18, l_19, l_20, l_24, l_30, l_31, l_40, l_45, l_50, l_57, l_58, l_59, l_60, l_61, l_62, l_63, l_64, l_90, l_99, l_100, l_107, l_108, l_109, l_110, l_111, l_299, l_300, l_400, l_407, l_807, l407, l4477]
    refine Tr.some (Or.inl ⟨_, rfl, h1.tr (Fr.sI (by simp)), fun k => ?_⟩)
    rw [sI_at]
    by_cases e : k = t
    · rw [if_pos ⟨rfl, e⟩, if_pos (by omega), h3, if_neg (by omega), e]
    · rw [if_neg (by omega), h3]
      by_cases e2 : k < t
      · rw [if_pos e2, if_pos (by omega)]
      · rw [if_neg e2, if_neg (by omega)]
  · obtain ⟨h1, h3⟩ := hP
    unfold f_X10_remembers_L11
    simp (disch := omega) only [gI, gR, sA_nI, gA_nI, at_nI, put_nI, ibs_nI, nI_add, nI_mulI, nI_subI, nI_neg1, nI_leI, nI_ltI, nI_eq, nI_ne_m1, nI_m1_ne, nI_nlt0, Option.bind_some, bnd_some, iteP, iteN, reduceIte, if_true, if_false, eq_self, Bool.false_eq_true, l_0, l_1, l_2, l_3, l_4, l_5, l_6, l_7, l_8, l_9, l_10, l_11, l_12, l_13, l_14, l_15, l_16, l_17, l_18, l_19, l_20, l_24, l_30, l_31, l_40, l_45, l_50, l_57, l_58, l_59, l_60, l_61, l_62, l_63, l_64, l_90, l_99, l_100, l_107, l_108, l_109, l_110, l_111, l_299, l_300, l_400, l_407, l_807, l4477]
    exact Tr.some ⟨_, rfl, h1, fun k hk => by rw [h3, if_pos hk]⟩
end REM
