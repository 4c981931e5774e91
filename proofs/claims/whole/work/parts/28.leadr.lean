/-! visitors led past: the reference -/
def FrQ (S : List Nat) (M N : Mm) : Prop := Fr S M N ∧ ∀ k, k = 0 ∨ k = 3 ∨ k = 6 ∨ k = 8 ∨ k = 12 → N.1 109 k = M.1 109 k
theorem FrQ.rf {S : List Nat} {M : Mm} : FrQ S M M := ⟨Fr.rf, fun _ _ => rfl⟩
theorem FrQ.tr {S : List Nat} {M N K : Mm} (h : FrQ S M N) (h2 : FrQ S N K) : FrQ S M K := ⟨h.1.tr h2.1, fun k hk => (h2.2 k hk).trans (h.2 k hk)⟩
theorem FrQ.mono {S S2 : List Nat} {M N : Mm} (h : FrQ S M N) (hs : ∀ i ∈ S, i ∈ S2) : FrQ S2 M N := ⟨h.1.mono hs, h.2⟩
theorem FrQ.of {S : List Nat} {M N : Mm} (h : Fr S M N) (hs : 109 ∉ S) : FrQ S M N := ⟨h, fun k _ => by rw [(h 109 hs).1]⟩
theorem FrQ.sI {S : List Nat} {M : Mm} {i k : Nat} {v : Int32} (h : i ∈ S) (hi : i ≠ 109) : FrQ S M (sI M i k v) := ⟨Fr.sI h, fun j _ => by rw [sI_at, if_neg (by omega)]⟩
section LEADR
variable {LR : Mm → Nat → (Nat → Int32) → Prop} {LK : (Nat → Int32) → Nat → Nat → Int32 → Int32} {M Mc : Mm} {q L B : Nat} {m : Nat → Int32} {s : Int32} {nx dw : Int32 → Int32}
theorem asksR (HL : LSpec LR LK) (hm : M.1 110 = m) (hI : Inv m B) (hR : LR Mc L m) : Tr (f_X10_asks M) (fun N => FrQ [109, 115, 116] M N ∧ ∀ t v, t < tN m → v < vN m → N.1 116 (10 * t + v) = lkv LK m t v) := by
  obtain ⟨e3, hT⟩ := hI.t
  obtain ⟨e4, hV⟩ := hI.v
  unfold f_X10_asks
  refine Tr.bind (Q := fun N => FrQ [109, 115, 116] M N ∧ ∀ t v, t < tN m → v < vN m → N.1 116 (10 * t + v) = lkv LK m t v) ?_ (fun N hN => Tr.some hN)
  refine lp0 (fun i (N : Mm) => (N, nI i)) (tN m) (fun i N => FrQ [109, 115, 116] M N ∧ ∀ t v, t < i → v < vN m → N.1 116 (10 * t + v) = lkv LK m t v) (by omega) M rfl ⟨FrQ.rf, fun t v ht => absurd ht (Nat.not_lt_zero t)⟩ (fun i N hi hP => ?_) (fun N hP => ?_)
  · obtain ⟨hF, hP⟩ := hP
    have hN : N.1 110 = m := by rw [(hF.1 110 (by simp)).1]; exact hm
    have hin : Tr (loop FU (fun a_5 => f_X10_asks_L14 a_5.1 (nI i) a_5.2) (N, nI 0)) (fun N2 => FrQ [109, 115, 116] M N2 ∧ ∀ t v, t < i + 1 → v < vN m → N2.1 116 (10 * t + v) = lkv LK m t v) := by
      refine lp0 (fun k (N : Mm) => (N, nI k)) (vN m) (fun k N2 => FrQ [109, 115, 116] M N2 ∧ ∀ t v, (t < i ∧ v < vN m ∨ t = i ∧ v < k) → N2.1 116 (10 * t + v) = lkv LK m t v) (by omega) N rfl ⟨hF, fun t v hv => hP t v (by omega) (by omega)⟩ (fun k N2 hk2 hP2 => ?_) (fun N2 hP2 => ?_)
      · obtain ⟨hF2, hP2⟩ := hP2
        have hN2 : N2.1 110 = m := by rw [(hF2.1 110 (by simp)).1]; exact hm
        have g4 : N2.1 110 4 = nI (vN m) := by rw [hN2]; exact e4
        unfold f_X10_asks_L14
        simp (disch := omega) only [gI, gR, sA_nI, gA_nI, at_nI, put_nI, ibs_nI, nI_add, nI_mulI, nI_subI, nI_neg1, nI_leI, nI_ltI, nI_eq, nI_ne_m1, nI_m1_ne, nI_nlt0, Option.bind_some, bnd_some, iteP, iteN, reduceIte, if_true, if_false, eq_self, Bool.false_eq_true, l_0, l_1, l_2, l_3, l_4, l_5, l_6, l_7, l_8, l_9, l_10, l_11, l_12, l_13, l_14, l_15, l_16, l_17, l_18, l_19, l_20, l_24, l_30, l_31, l_40, l_45, l_50, l_57, l_58, l_59, l_60, l_61, l_62, l_63, l_64, l_90, l_99, l_100, l_107, l_108, l_109, l_110, l_111, l_299, l_300, l_400, l_407, l_807, g4, ofOneR]
        rw [hN2]
        have hl := HL.2.2.2.2.1 N2 i k (m (57 + 5 * k + 4)) B Mc L (by rw [hN2]; exact hI) (by rw [hN2]; exact hR) (by rw [hN2]; exact hi) (by rw [hN2]; exact hk2)
        refine Tr.bind hl (fun r hr => ?_)
        obtain ⟨r1, hF3⟩ := hr
        rw [hN2] at r1
        have hF3 : FrQ [109, 115] N2 r.2 := hF3
        refine Tr.some (Or.inl ⟨_, rfl, (hF2.tr (hF3.mono (by simp))).tr (FrQ.sI (by simp) (by decide)), fun t v hv => ?_⟩)
        rw [sI_at]
        by_cases e : 10 * t + v = 10 * i + k
        · have e1 : t = i := by omega
          have e2 : v = k := by omega
          subst e1; subst e2
          simp [r1, lkv]
        · simp only [e, and_false, if_false]
          rw [(hF3.1 116 (by simp)).1]
          exact hP2 t v (by omega)
      · obtain ⟨hF2, hP2⟩ := hP2
        have hN2 : N2.1 110 = m := by rw [(hF2.1 110 (by simp)).1]; exact hm
        have g4 : N2.1 110 4 = nI (vN m) := by rw [hN2]; exact e4
        unfold f_X10_asks_L14
        simp (disch := omega) only [gI, gR, sA_nI, gA_nI, at_nI, put_nI, ibs_nI, nI_add, nI_mulI, nI_subI, nI_neg1, nI_leI, nI_ltI, nI_eq, nI_ne_m1, nI_m1_ne, nI_nlt0, Option.bind_some, bnd_some, iteP, iteN, reduceIte, if_true, if_false, eq_self, Bool.false_eq_true, l_0, l_1, l_2, l_3, l_4, l_5, l_6, l_7, l_8, l_9, l_10, l_11, l_12, l_13, l_14, l_15, l_16, l_17, l_18, l_19, l_20, l_24, l_30, l_31, l_40, l_45, l_50, l_57, l_58, l_59, l_60, l_61, l_62, l_63, l_64, l_90, l_99, l_100, l_107, l_108, l_109, l_110, l_111, l_299, l_300, l_400, l_407, l_807, g4]
        exact Tr.some ⟨_, rfl, hF2, fun t v h1 h2 => hP2 t v (by omega)⟩
    have g3 : N.1 110 3 = nI (tN m) := by rw [hN]; exact e3
    unfold f_X10_asks_L2
    simp (disch := omega) only [gI, gR, sA_nI, gA_nI, at_nI, put_nI, ibs_nI, nI_add, nI_mulI, nI_subI, nI_neg1, nI_leI, nI_ltI, nI_eq, nI_ne_m1, nI_m1_ne, nI_nlt0, Option.bind_some, bnd_some, iteP, iteN, reduceIte, if_true, if_false, eq_self, Bool.false_eq_true, l_0, l_1, l_2, l_3, l_4, l_5, l_6, l_7, l_8, l_9, l_10, l_11, l_12, l_13, l_14, l_15, l_16, l_17, l_18, l_19, l_20, l_24, l_30, l_31, l_40, l_45, l_50, l_57, l_58, l_59, l_60, l_61, l_62, l_63, l_64, l_90, l_99, l_100, l_107, l_108, l_109, l_110, l_111, l_299, l_300, l_400, l_407, l_807, g3]
    refine Tr.bind hin (fun N2 hN2 => ?_)
    exact Tr.some (Or.inl ⟨_, rfl, hN2.1, hN2.2⟩)
  · obtain ⟨hF, hP⟩ := hP
    have g3 : N.1 110 3 = nI (tN m) := by rw [(hF.1 110 (by simp)).1, hm]; exact e3
    unfold f_X10_asks_L2
    simp (disch := omega) only [gI, gR, sA_nI, gA_nI, at_nI, put_nI, ibs_nI, nI_add, nI_mulI, nI_subI, nI_neg1, nI_leI, nI_ltI, nI_eq, nI_ne_m1, nI_m1_ne, nI_nlt0, Option.bind_some, bnd_some, iteP, iteN, reduceIte, if_true, if_false, eq_self, Bool.false_eq_true, l_0, l_1, l_2, l_3, l_4, l_5, l_6, l_7, l_8, l_9, l_10, l_11, l_12, l_13, l_14, l_15, l_16, l_17, l_18, l_19, l_20, l_24, l_30, l_31, l_40, l_45, l_50, l_57, l_58, l_59, l_60, l_61, l_62, l_63, l_64, l_90, l_99, l_100, l_107, l_108, l_109, l_110, l_111, l_299, l_300, l_400, l_407, l_807, g3]
    exact Tr.some ⟨_, rfl, hF, hP⟩
theorem beginsR : Tr (f_X10_beginsDay M) (fun N => Fr [117, 118, 119] M N ∧ (∀ t, t < 9 → N.1 119 t = nI 0) ∧ ∀ v, v < 10 → N.1 117 v = -1 ∧ N.1 118 v = -1) := by
  unfold f_X10_beginsDay
  refine Tr.bind (Q := fun N => Fr [117, 118, 119] M N ∧ ∀ t, t < 9 → N.1 119 t = nI 0) ?_ (fun N hN => ?_)
  · refine lp0 (fun i (N : Mm) => (N, nI i)) 9 (fun i N => Fr [117, 118, 119] M N ∧ ∀ t, t < i → N.1 119 t = nI 0) (by omega) M rfl ⟨Fr.rf, fun t ht => absurd ht (Nat.not_lt_zero t)⟩ (fun i N hi hP => ?_) (fun N hP => ?_)
    · unfold f_X10_beginsDay_L2
      simp (disch := omega) only [gI, gR, sA_nI, gA_nI, at_nI, put_nI, ibs_nI, nI_add, nI_mulI, nI_subI, nI_neg1, nI_leI, nI_ltI, nI_eq, nI_ne_m1, nI_m1_ne, nI_nlt0, Option.bind_some, bnd_some, iteP, iteN, reduceIte, if_true, if_false, eq_self, Bool.false_eq_true, l_0, l_1, l_2, l_3, l_4, l_5, l_6, l_7, l_8, l_9, l_10, l_11, l_12, l_13, l_14, l_15, l_16, l_17, l_18, l_19, l_20, l_24, l_30, l_31, l_40, l_45, l_50, l_57, l_58, l_59, l_60, l_61, l_62, l_63, l_64, l_90, l_99, l_100, l_107, l_108, l_109, l_110, l_111, l_299, l_300, l_400, l_407, l_807]
      refine Tr.some (Or.inl ⟨_, rfl, hP.1.tr (Fr.sI (by simp)), fun t ht => ?_⟩)
      rw [sI_at]
      by_cases e : t = i
      · simp [e]
      · simp [e, hP.2 t (by omega)]
    · unfold f_X10_beginsDay_L2
      simp (disch := omega) only [gI, gR, sA_nI, gA_nI, at_nI, put_nI, ibs_nI, nI_add, nI_mulI, nI_subI, nI_neg1, nI_leI, nI_ltI, nI_eq, nI_ne_m1, nI_m1_ne, nI_nlt0, Option.bind_some, bnd_some, iteP, iteN, reduceIte, if_true, if_false, eq_self, Bool.false_eq_true, l_0, l_1, l_2, l_3, l_4, l_5, l_6, l_7, l_8, l_9, l_10, l_11, l_12, l_13, l_14, l_15, l_16, l_17, l_18, l_19, l_20, l_24, l_30, l_31, l_40, l_45, l_50, l_57, l_58, l_59, l_60, l_61, l_62, l_63, l_64, l_90, l_99, l_100, l_107, l_108, l_109, l_110, l_111, l_299, l_300, l_400, l_407, l_807]
      exact Tr.some ⟨_, rfl, hP⟩
  · refine Tr.bind (Q := fun N => Fr [117, 118, 119] M N ∧ (∀ t, t < 9 → N.1 119 t = nI 0) ∧ ∀ v, v < 10 → N.1 117 v = -1 ∧ N.1 118 v = -1) ?_ (fun N hN => Tr.some hN)
    refine lp0 (fun i (N : Mm) => (N, nI i)) 10 (fun i N => Fr [117, 118, 119] M N ∧ (∀ t, t < 9 → N.1 119 t = nI 0) ∧ ∀ v, v < i → N.1 117 v = -1 ∧ N.1 118 v = -1) (by omega) N rfl ⟨hN.1, hN.2, fun t ht => absurd ht (Nat.not_lt_zero t)⟩ (fun i N hi hP => ?_) (fun N hP => ?_)
    · obtain ⟨hF, h1, h2⟩ := hP
      unfold f_X10_beginsDay_L23
      simp (disch := omega) only [gI, gR, sA_nI, gA_nI, at_nI, put_nI, ibs_nI, nI_add, nI_mulI, nI_subI, nI_neg1, nI_leI, nI_ltI, nI_eq, nI_ne_m1, nI_m1_ne, nI_nlt0, Option.bind_some, bnd_some, iteP, iteN, reduceIte, if_true, if_false, eq_self, Bool.false_eq_true, l_0, l_1, l_2, l_3, l_4, l_5, l_6, l_7, l_8, l_9, l_10, l_11, l_12, l_13, l_14, l_15, l_16, l_17, l_18, l_19, l_20, l_24, l_30, l_31, l_40, l_45, l_50, l_57, l_58, l_59, l_60, l_61, l_62, l_63, l_64, l_90, l_99, l_100, l_107, l_108, l_109, l_110, l_111, l_299, l_300, l_400, l_407, l_807, nI_neg1]
      refine Tr.some (Or.inl ⟨_, rfl, (hF.tr (Fr.sI (by simp))).tr (Fr.sI (by simp)), fun t ht => ?_, fun v hv => ?_⟩)
      · rw [sI_at, if_neg (by omega), sI_at, if_neg (by omega)]; exact h1 t ht
      · rw [sI_at, sI_at, sI_at, sI_at]
        by_cases e : v = i
        · simp [e]
        · simp [e, h2 v (by omega)]
    · unfold f_X10_beginsDay_L23
      simp (disch := omega) only [gI, gR, sA_nI, gA_nI, at_nI, put_nI, ibs_nI, nI_add, nI_mulI, nI_subI, nI_neg1, nI_leI, nI_ltI, nI_eq, nI_ne_m1, nI_m1_ne, nI_nlt0, Option.bind_some, bnd_some, iteP, iteN, reduceIte, if_true, if_false, eq_self, Bool.false_eq_true, l_0, l_1, l_2, l_3, l_4, l_5, l_6, l_7, l_8, l_9, l_10, l_11, l_12, l_13, l_14, l_15, l_16, l_17, l_18, l_19, l_20, l_24, l_30, l_31, l_40, l_45, l_50, l_57, l_58, l_59, l_60, l_61, l_62, l_63, l_64, l_90, l_99, l_100, l_107, l_108, l_109, l_110, l_111, l_299, l_300, l_400, l_407, l_807]
      exact Tr.some ⟨_, rfl, hP⟩
theorem u9_110 : (sI M 110 9 s).1 110 = u9 (M.1 110) s := by
  funext k
  rw [sI_at]
  by_cases e : k = 9 <;> simp [u9, e]
theorem drawR : f_X10_draw M 100 = some (drw (nxs (M.1 110 9)), sI M 110 9 (nxs (M.1 110 9))) := by
  have h9 : ibs (9 : Int32) 807 = true := by decide
  have g9 : ∀ N : Mm, gA N 110 9 = N.1 110 9 := fun N => rfl
  have s9 : ∀ (N : Mm) x, sA N 110 9 x = sI N 110 9 x := fun _ _ => rfl
  have e : (1103515245 : Int32) * M.1 110 9 + 12345 = nxs (M.1 110 9) := by
    unfold nxs
    rw [Int32.mul_comm]
  unfold f_X10_draw
  rw [g9, e, s9]
  generalize nxs (M.1 110 9) = y
  simp only [h9, if_true, Option.bind_some]
  rw [if_pos (show ¬ (100 : Int32) = 0 by decide), g9, sI_at, if_pos ⟨rfl, rfl⟩]
  rfl
end LEADR
