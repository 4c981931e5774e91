/-! undo, remember -/
section MUT4
variable {LR : Mm → Nat → (Nat → Int32) → Prop} {LK : (Nat → Int32) → Nat → Nat → Int32 → Int32} {n : Nat} {M N Mc Mr Nc Nr : Mm} {q L B a d c : Nat} {m m2 : Nat → Int32} {x x1 x2 x3 x4 x5 : Int32}
theorem cpR2 {f : Mm → Int32 → Option ((Mm × Int32) ⊕ Mm)} {i j o N T : Nat} (hT : T < 10000) (hij : i ≠ j) (M : Mm) (hstep : ∀ (K : Mm) k, Fr [i] M K → k < T → f K (nI k) = some (.inl (sI K i (o + k) (K.1 j (N + k)), nI (k + 1)))) (hend : ∀ K : Mm, f K (nI T) = some (.inr K)) : Tr (loop FU (fun a => f a.1 a.2) (M, nI 0)) (fun K => Fr [i] M K ∧ ∀ k, K.1 i k = if o ≤ k ∧ k < o + T then M.1 j (N + (k - o)) else M.1 i k) := by
  refine lp0 (fun k (K : Mm) => (K, nI k)) T (fun t K => Fr [i] M K ∧ ∀ k, K.1 i k = if o ≤ k ∧ k < o + t then M.1 j (N + (k - o)) else M.1 i k) hT M rfl ⟨Fr.rf, fun k => by rw [if_neg (by omega)]⟩ (fun t K ht hP => ?_) (fun K hP => ?_)
  · obtain ⟨hF, hK⟩ := hP
    refine ⟨_, hstep K t hF ht, Or.inl ⟨_, rfl, hF.tr (Fr.sI (by simp)), fun k => ?_⟩⟩
    rw [sI_at, (hF j (by simp; omega)).1]
    by_cases e : k = o + t
    · rw [if_pos ⟨rfl, e⟩, if_pos (by omega), e, show o + t - o = t by omega]
    · rw [if_neg (by omega), hK k]
      by_cases e2 : o ≤ k ∧ k < o + t
      · rw [if_pos e2, if_pos (by omega)]
      · rw [if_neg e2, if_neg (by omega)]
  · exact ⟨_, hend K, _, rfl, hP⟩
theorem gE_nI {i k : Nat} (h : k < 2 ^ 31) : gE M i (nI k) = M.2.2 i k := by unfold gE; rw [nI_clamp h]
theorem sE_nI {i k v : Nat} (h : k < 2 ^ 31) : sE M i (nI k) v = sR M i k v := by unfold sE; rw [nI_clamp h]
theorem l407 : (407 : Int32) = nI 407 := rfl
theorem l4477 : (4477 : Int32) = nI 4477 := rfl
theorem l12 : (12 : Int32) = nI 12 := rfl
theorem s_38 (HL : LSpec LR LK) (h : RR LR n Mc Mr) : ∃ Nc Nr, so_38 x1 x2 x3 x4 x5 Mc Mr Nc Nr ∧ RR LR (n + 1) Nc Nr := by
  have h0 := h
  have h := RR_succ h
  obtain ⟨⟨k1, k2, k3, k4, k5, k6, k7⟩, ⟨j1, j2, j3, j4, j5⟩, ⟨a1, a2, a3⟩, ⟨b1, b2, b3⟩, c1, ⟨d1, d2, d3⟩, ⟨e1, e2, e3⟩⟩ := h
  have r6 : gI (sI Mr 109 0 0) 109 6 = Mr.1 109 6 := rfl
  obtain ⟨e1, e1'⟩ := e1
  generalize hA : (Mr.1 109 6).toNatClampNeg = A at e1 e1' e3
  have g11 : gI Mc 1 11 = nI A := e2.trans e1
  have r6' : gI (sI Mr 109 0 0) 109 6 = nI A := e1
  by_cases hz : A = 0
  · subst hz
    refine ⟨Mc, sI Mr 109 0 0, ⟨false, ?_, ?_⟩, RR_q HL h0 KpC.rf ⟨rfl, rfl⟩ KpR.t⟩
    · unfold f_X9_undo
      rw [g11, if_pos (by decide)]
    · unfold f_X10_undo
      rw [Option.bind_some, r6', if_pos (by decide)]
  · obtain ⟨y1, y2, y3, y4⟩ := e3 (A - 1) (by omega)
    obtain ⟨kA1, kA2, kA3, kA4⟩ := k6 (A - 1) (by omega)
    have m1 := md4 k1
    have m2 := md4 k2
    have l1 := (lnL j1).2.2.2.2.2
    have sub1 : nI A - 1 = nI (A - 1) := nI_subI (b := 1) (by omega)
    have y1' : MR (sI Mc 1 11 (nI (A - 1))) (Mc.2.2 3 (A - 1)) (fun k => Mr.1 113 (407 * (A - 1) + k)) := y1.fr (fun i h1 h2 => by have := md4 kA1; exact sI_fn (show i ≠ 1 by omega))
    obtain ⟨N1, p1, p2, p3⟩ := copyC k1 kA1 (by omega) y1'
    have r62 : gI (sI (sI Mr 109 0 0) 109 6 (nI (A - 1))) 109 6 = nI (A - 1) := by show (sI _ 109 6 _).1 109 6 = _; rw [sI_at, if_pos ⟨rfl, rfl⟩]
    obtain ⟨K, t1, t2, t3⟩ := cpR2 (f := f_X10_undo_L26) (i := 110) (j := 113) (o := 0) (N := 407 * (A - 1)) (T := 407) (by decide) (by decide) (sI (sI Mr 109 0 0) 109 6 (nI (A - 1))) (fun M k hF hk => by
      have g6 : M.1 109 6 = nI (A - 1) := by rw [(hF 109 (by simp)).1]; exact r62
      unfold f_X10_undo_L26
      simp (disch := omega) only [gI, gR, sA_nI, gA_nI, at_nI, put_nI, ibs_nI, nI_add, nI_mulI, nI_subI, nI_neg1, nI_leI, nI_ltI, nI_eq, nI_ne_m1, nI_m1_ne, nI_nlt0, Option.bind_some, bnd_some, iteP, iteN, reduceIte, if_true, if_false, eq_self, Bool.false_eq_true, l_0, l_1, l_2, l_3, l_4, l_5, l_6, l_7, l_8, l_9, l_10, l_11, l_12, l_13, l_14, l_15, l_16, l_17, l_18, l_19, l_20, l_24, l_30, l_31, l_40, l_45, l_50, l_57, l_58, l_59, l_60, l_61, l_62, l_63, l_64, l_90, l_99, l_100, l_107, l_108, l_109, l_110, l_111, l_299, l_300, l_400, l_407, l_807, Nat.zero_add, l407, gI, g6]) (fun M => by unfold f_X10_undo_L26; simp (disch := omega) only [gI, gR, sA_nI, gA_nI, at_nI, put_nI, ibs_nI, nI_add, nI_mulI, nI_subI, nI_neg1, nI_leI, nI_ltI, nI_eq, nI_ne_m1, nI_m1_ne, nI_nlt0, Option.bind_some, bnd_some, iteP, iteN, reduceIte, if_true, if_false, eq_self, Bool.false_eq_true, l_0, l_1, l_2, l_3, l_4, l_5, l_6, l_7, l_8, l_9, l_10, l_11, l_12, l_13, l_14, l_15, l_16, l_17, l_18, l_19, l_20, l_24, l_30, l_31, l_40, l_45, l_50, l_57, l_58, l_59, l_60, l_61, l_62, l_63, l_64, l_90, l_99, l_100, l_107, l_108, l_109, l_110, l_111, l_299, l_300, l_400, l_407, l_807, l407])
    have t4 : ∀ k, K.1 110 k = if k < 407 then Mr.1 113 (407 * (A - 1) + k) else Mr.1 110 k := fun k => by
      rw [t3 k]
      by_cases e : k < 407
      · rw [if_pos (by omega), if_pos e, sI_fn (by decide), sI_fn (by decide), Nat.sub_zero]
      · rw [if_neg (by omega), if_neg e, sI_fn (by decide), sI_fn (by decide)]
    refine ⟨N1, K, ⟨true, ?_, ?_⟩, ?_⟩
    · unfold f_X9_undo
      rw [g11, if_neg (by rw [l_1, nI_ltI (by omega) (by omega)]; omega), if_pos (by rw [l12, nI_leI (by omega) (by omega)]; omega), sub1]
      have g11' : gI (sI Mc 1 11 (nI (A - 1))) 1 11 = nI (A - 1) := by show (sI _ 1 11 _).1 1 11 = _; rw [sI_at, if_pos ⟨rfl, rfl⟩]
      simp only [Option.bind_some, show gR (sI Mc 1 11 (nI (A - 1))) 1 3 = Mc.2.2 1 3 from rfl, if_pos k1, g11', if_pos (ibs_nI (show A - 1 < 12 by omega) (by decide)), gE_nI (show A - 1 < 2 ^ 31 by omega)]
      rw [show (sI Mc 1 11 (nI (A - 1))).2.2 3 (A - 1) = Mc.2.2 3 (A - 1) from rfl, if_pos kA1, p1]
      rfl
    · unfold f_X10_undo
      rw [Option.bind_some, r6', if_neg (by rw [show (0 : Int32) = nI 0 from rfl, nI_eq (by omega) (by omega)]; omega), sub1, Option.bind_some, show ((M' : Mm) → loop FU (fun a_3 => f_X10_undo_L26 a_3.1 a_3.2) (M', 0) = loop FU (fun a_3 => f_X10_undo_L26 a_3.1 a_3.2) (M', nI 0)) from fun _ => rfl, t1]
      rfl
    · have f : ∀ i, i ≠ 1 → (i < Mc.2.2 1 3 ∨ Mc.2.2 1 3 + 3 < i) → N1.1 i = Mc.1 i := fun i h1 h2 => by
        rw [(p3 i (by simp; omega)).1, sI_fn h1]
      have f1 : ∀ b, b ≠ 11 → N1.1 1 b = Mc.1 1 b := fun b hb => by
        rw [(p3 1 (by simp; omega)).1, sI_at, if_neg (by omega)]
      have f11 : N1.1 1 11 = nI (A - 1) := by rw [(p3 1 (by simp; omega)).1, sI_at, if_pos ⟨rfl, rfl⟩]
      have g2 : N1.2.2 1 = Mc.2.2 1 ∧ N1.2.2 3 = Mc.2.2 3 := by
        rw [(p3 1 (by simp; omega)).2.2, (p3 3 (by simp; omega)).2.2]
        exact ⟨rfl, rfl⟩
      have r : ∀ i, i ≠ 109 → i ≠ 110 → K.1 i = Mr.1 i := fun i h1 h2 => by rw [(t2 i (by simpa using h2)).1, sI_fn h1, sI_fn h1]
      have r1 : ∀ b, b ≠ 6 → b ≠ 0 → K.1 109 b = Mr.1 109 b := fun b h1 h2 => by
        rw [(t2 109 (by simp)).1, sI_at, if_neg (by omega), sI_at, if_neg (by omega)]
      have r2 : K.1 109 6 = nI (A - 1) := by rw [(t2 109 (by simp)).1]; exact r62
      unfold RR
      rw [g2.1, g2.2, f1 1 (by decide), f1 2 (by decide), f1 9 (by decide), f11, f 2 (by decide) (by omega), r 111 (by decide) (by decide), r 113 (by decide) (by decide), r 114 (by decide) (by decide), r1 8 (by decide) (by decide), r1 12 (by decide) (by decide), r1 3 (by decide) (by decide), r2]
      have hE : eqM (fun k => Mr.1 113 (407 * (A - 1) + k)) (K.1 110) := fun k hk => by rw [t4 k, if_pos hk]
      have hEL : eqL (Mr.1 110) (K.1 110) := ⟨by rw [t4 1, if_pos (by decide)]; exact y3, by rw [t4 2, if_pos (by decide)]; exact y4, fun k h1 h2 => by rw [t4 k, if_neg (by omega)]⟩
      refine ⟨⟨k1, k2, k3, k4, k5, k6, k7⟩, ⟨j1, j2, j3, j4, j5⟩, ⟨p2.cg hE, y2.cg hE, ?_⟩, ⟨b1, b2, b3⟩, c1, ⟨d1, d2, fun hh => ?_⟩, ⟨isN_nI (by omega) (by decide), rfl, fun j hj => ?_⟩⟩
      · exact HL.2.1 _ _ _ _ (HL.1 _ _ _ _ a3 (fun i h1 h2 => f i (by omega) (by omega))) hEL
      · obtain ⟨x1, x2, x3⟩ := d3 hh
        exact ⟨x1.fr (fun i h1 h2 => f i (by omega) (by omega)), x2, HL.1 _ _ _ _ x3 (fun i h1 h2 => f i (by omega) (by omega))⟩
      · rw [nI_clamp (by omega)] at hj
        obtain ⟨x1, x2, x3, x4⟩ := e3 j (by omega)
        have hq := k6 j (by omega)
        have := md4 hq.1
        exact ⟨x1.fr (fun i h1 h2 => f i (by omega) (by omega)), x2, x3.trans hEL.1.symm, x4.trans hEL.2.1.symm⟩
end MUT4
