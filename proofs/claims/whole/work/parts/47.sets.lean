/-! sets of rings and of the had; alone, rivals -/
section SETS
variable {LR : Mm → Nat → (Nat → Int32) → Prop} {LK : (Nat → Int32) → Nat → Nat → Int32 → Int32} {n : Nat} {M N Mc Mr Nc Nr : Mm} {q L B a b c : Nat} {m m2 : Nat → Int32} {x x1 x2 x3 x4 x5 : Int32}
theorem ringsForR (hm : M.1 110 = m) (hI : Inv m B) (h116 : ∀ t v, t < tN m → v < vN m → M.1 116 (10 * t + v) = lkv LK m t v) {t : Nat} (ht : t < tN m) : f_X10_ringsFor M (nI t) = some (clr LK m t) := by
  obtain ⟨e3, hT⟩ := hI.t
  obtain ⟨e4, hV⟩ := hI.v
  have g4 : M.1 110 4 = nI (vN m) := by rw [hm]; exact e4
  unfold f_X10_ringsFor
  have : loop FU (fun a_3 => f_X10_ringsFor_L4 M (nI t) a_3.1 a_3.2) (0, 0) = some (clr LK m t) := by
    refine lpI (fun v s => (s, nI v)) (vN m) (fun v s => if rgs m t (lkv LK m t v) = true then s ||| b1 v else s) id (by omega) 0 rfl (fun v s hv => ?_) (fun s => ?_)
    · have hc := canHaveR (LK := LK) hm (t := t) (v := v) (by omega) (by omega) (h116 t v ht hv)
      unfold f_X10_ringsFor_L4
      simp (disch := omega) only [gI, gR, sA_nI, gA_nI, at_nI, put_nI, ibs_nI, nI_add, nI_mulI, nI_subI, nI_neg1, nI_leI, nI_ltI, nI_eq, nI_ne_m1, nI_m1_ne, nI_nlt0, Option.bind_some, bnd_some, iteP, iteN, reduceIte, if_true, if_false, eq_self, Bool.false_eq_true, l_0, l_1, l_2, l_3, l_4, l_5, l_6, l_7, l_8, l_9, l_10, l_11, l_12, l_13, l_14, l_15, l_16, l_17, l_18, l_19, l_20, l_24, l_30, l_31, l_40, l_45, l_50, l_57, l_58, l_59, l_60, l_61, l_62, l_63, l_64, l_90, l_99, l_100, l_107, l_108, l_109, l_110, l_111, l_299, l_300, l_400, l_407, l_807, g4, hc, b1_def, or0]
      by_cases c : rgs m t (lkv LK m t v) = true <;> simp [c]
    · unfold f_X10_ringsFor_L4
      simp (disch := omega) only [gI, gR, sA_nI, gA_nI, at_nI, put_nI, ibs_nI, nI_add, nI_mulI, nI_subI, nI_neg1, nI_leI, nI_ltI, nI_eq, nI_ne_m1, nI_m1_ne, nI_nlt0, Option.bind_some, bnd_some, iteP, iteN, reduceIte, if_true, if_false, eq_self, Bool.false_eq_true, l_0, l_1, l_2, l_3, l_4, l_5, l_6, l_7, l_8, l_9, l_10, l_11, l_12, l_13, l_14, l_15, l_16, l_17, l_18, l_19, l_20, l_24, l_30, l_31, l_40, l_45, l_50, l_57, l_58, l_59, l_60, l_61, l_62, l_63, l_64, l_90, l_99, l_100, l_107, l_108, l_109, l_110, l_111, l_299, l_300, l_400, l_407, l_807, g4]
      rfl
  rw [this]; rfl
theorem ringingR (hm : M.1 110 = m) (hI : Inv m B) (h116 : ∀ t v, t < tN m → v < vN m → M.1 116 (10 * t + v) = lkv LK m t v) {v : Nat} (hv : v < vN m) : f_X10_ringing M (nI v) = some (bset (fun t => rgs m t (lkv LK m t v)) (tN m)) := by
  obtain ⟨e3, hT⟩ := hI.t
  obtain ⟨e4, hV⟩ := hI.v
  have g3 : M.1 110 3 = nI (tN m) := by rw [hm]; exact e3
  unfold f_X10_ringing
  have : loop FU (fun a_3 => f_X10_ringing_L4 M (nI v) a_3.1 a_3.2) (0, 0) = some (bset (fun t => rgs m t (lkv LK m t v)) (tN m)) := by
    refine lpI (fun t s => (s, nI t)) (tN m) (fun t s => if rgs m t (lkv LK m t v) = true then s ||| b1 t else s) id (by omega) 0 rfl (fun t s ht => ?_) (fun s => ?_)
    · have hc := canHaveR (LK := LK) hm (t := t) (v := v) (by omega) (by omega) (h116 t v ht hv)
      unfold f_X10_ringing_L4
      simp (disch := omega) only [gI, gR, sA_nI, gA_nI, at_nI, put_nI, ibs_nI, nI_add, nI_mulI, nI_subI, nI_neg1, nI_leI, nI_ltI, nI_eq, nI_ne_m1, nI_m1_ne, nI_nlt0, Option.bind_some, bnd_some, iteP, iteN, reduceIte, if_true, if_false, eq_self, Bool.false_eq_true, l_0, l_1, l_2, l_3, l_4, l_5, l_6, l_7, l_8, l_9, l_10, l_11, l_12, l_13, l_14, l_15, l_16, l_17, l_18, l_19, l_20, l_24, l_30, l_31, l_40, l_45, l_50, l_57, l_58, l_59, l_60, l_61, l_62, l_63, l_64, l_90, l_99, l_100, l_107, l_108, l_109, l_110, l_111, l_299, l_300, l_400, l_407, l_807, g3, hc, b1_def, or0]
      by_cases c : rgs m t (lkv LK m t v) = true <;> simp [c]
    · unfold f_X10_ringing_L4
      simp (disch := omega) only [gI, gR, sA_nI, gA_nI, at_nI, put_nI, ibs_nI, nI_add, nI_mulI, nI_subI, nI_neg1, nI_leI, nI_ltI, nI_eq, nI_ne_m1, nI_m1_ne, nI_nlt0, Option.bind_some, bnd_some, iteP, iteN, reduceIte, if_true, if_false, eq_self, Bool.false_eq_true, l_0, l_1, l_2, l_3, l_4, l_5, l_6, l_7, l_8, l_9, l_10, l_11, l_12, l_13, l_14, l_15, l_16, l_17, l_18, l_19, l_20, l_24, l_30, l_31, l_40, l_45, l_50, l_57, l_58, l_59, l_60, l_61, l_62, l_63, l_64, l_90, l_99, l_100, l_107, l_108, l_109, l_110, l_111, l_299, l_300, l_400, l_407, l_807, g3]
      rfl
  rw [this]; rfl
theorem hadByC {f : Nat → Option Nat} (h : ∀ v, v < 10 → M.1 85 v = oI (f v)) (hb : ∀ v t, f v = some t → t < 2 ^ 31) {t : Nat} (ht : t < 2 ^ 31) : f_X6_hadBy M (nI t) = some (bset (fun v => decide (f v = some t)) 10) := by
  unfold f_X6_hadBy
  have : loop FU (fun a_2 => f_X6_hadBy_L4 M (nI t) a_2.1 a_2.2) (0, 0) = some (bset (fun v => decide (f v = some t)) 10) := by
    refine lpI (fun v s => (s, nI v)) 10 (fun v s => if decide (f v = some t) = true then s ||| b1 v else s) id (by omega) 0 rfl (fun v s hv => ?_) (fun s => ?_)
    · unfold f_X6_hadBy_L4
      simp (disch := omega) only [a2, a83, a84, a85, a86, a88, a89, a92, a93, a96, p2, p83, p84, p85, p86, p88, p89, p92, p93, p96, a91, a94, a95, p91, p94, p95, gI, gR, sA_nI, gA_nI, at_nI, put_nI, ibs_nI, nI_add, nI_mulI, nI_subI, nI_neg1, nI_leI, nI_ltI, nI_eq, nI_ne_m1, nI_m1_ne, nI_nlt0, Option.bind_some, bnd_some, iteP, iteN, reduceIte, b1_def, or0, if_true, if_false, eq_self, Bool.false_eq_true, l_0, l_1, l_2, l_3, l_4, l_5, l_6, l_7, l_8, l_9, l_10, l_11, l_12, l_13, l_14, l_15, l_16, l_17, l_18, l_19, l_20, l_24, l_30, l_31, l_40, l_45, l_50, l_57, l_58, l_59, l_60, l_61, l_62, l_63, l_64, l_90, l_99, l_100, l_107, l_108, l_109, l_110, l_111, l_299, l_300, l_400, l_407, l_807, h, oI_eq (hb v) ht]
      by_cases c : f v = some t <;> simp [c]
    · unfold f_X6_hadBy_L4
      simp (disch := omega) only [a2, a83, a84, a85, a86, a88, a89, a92, a93, a96, p2, p83, p84, p85, p86, p88, p89, p92, p93, p96, a91, a94, a95, p91, p94, p95, gI, gR, sA_nI, gA_nI, at_nI, put_nI, ibs_nI, nI_add, nI_mulI, nI_subI, nI_neg1, nI_leI, nI_ltI, nI_eq, nI_ne_m1, nI_m1_ne, nI_nlt0, Option.bind_some, bnd_some, iteP, iteN, reduceIte, b1_def, or0, if_true, if_false, eq_self, Bool.false_eq_true, l_0, l_1, l_2, l_3, l_4, l_5, l_6, l_7, l_8, l_9, l_10, l_11, l_12, l_13, l_14, l_15, l_16, l_17, l_18, l_19, l_20, l_24, l_30, l_31, l_40, l_45, l_50, l_57, l_58, l_59, l_60, l_61, l_62, l_63, l_64, l_90, l_99, l_100, l_107, l_108, l_109, l_110, l_111, l_299, l_300, l_400, l_407, l_807]
      rfl
  rw [this]; rfl
theorem hadByR (hm : M.1 110 = m) (hI : Inv m B) {f : Nat → Option Nat} (h : ∀ v, v < 10 → M.1 117 v = oI (f v)) (hb : ∀ v t, f v = some t → t < 2 ^ 31) {t : Nat} (ht : t < 2 ^ 31) : f_X10_hadBy M (nI t) = some (bset (fun v => decide (f v = some t)) (vN m)) := by
  obtain ⟨e4, hV⟩ := hI.v
  have g4 : M.1 110 4 = nI (vN m) := by rw [hm]; exact e4
  unfold f_X10_hadBy
  have : loop FU (fun a_2 => f_X10_hadBy_L4 M (nI t) a_2.1 a_2.2) (0, 0) = some (bset (fun v => decide (f v = some t)) (vN m)) := by
    refine lpI (fun v s => (s, nI v)) (vN m) (fun v s => if decide (f v = some t) = true then s ||| b1 v else s) id (by omega) 0 rfl (fun v s hv => ?_) (fun s => ?_)
    · unfold f_X10_hadBy_L4
      simp (disch := omega) only [a2, a83, a84, a85, a86, a88, a89, a92, a93, a96, p2, p83, p84, p85, p86, p88, p89, p92, p93, p96, a91, a94, a95, p91, p94, p95, gI, gR, sA_nI, gA_nI, at_nI, put_nI, ibs_nI, nI_add, nI_mulI, nI_subI, nI_neg1, nI_leI, nI_ltI, nI_eq, nI_ne_m1, nI_m1_ne, nI_nlt0, Option.bind_some, bnd_some, iteP, iteN, reduceIte, b1_def, or0, if_true, if_false, eq_self, Bool.false_eq_true, l_0, l_1, l_2, l_3, l_4, l_5, l_6, l_7, l_8, l_9, l_10, l_11, l_12, l_13, l_14, l_15, l_16, l_17, l_18, l_19, l_20, l_24, l_30, l_31, l_40, l_45, l_50, l_57, l_58, l_59, l_60, l_61, l_62, l_63, l_64, l_90, l_99, l_100, l_107, l_108, l_109, l_110, l_111, l_299, l_300, l_400, l_407, l_807, g4, h, oI_eq (hb v) ht]
      by_cases c : f v = some t <;> simp [c]
    · unfold f_X10_hadBy_L4
      simp (disch := omega) only [a2, a83, a84, a85, a86, a88, a89, a92, a93, a96, p2, p83, p84, p85, p86, p88, p89, p92, p93, p96, a91, a94, a95, p91, p94, p95, gI, gR, sA_nI, gA_nI, at_nI, put_nI, ibs_nI, nI_add, nI_mulI, nI_subI, nI_neg1, nI_leI, nI_ltI, nI_eq, nI_ne_m1, nI_m1_ne, nI_nlt0, Option.bind_some, bnd_some, iteP, iteN, reduceIte, b1_def, or0, if_true, if_false, eq_self, Bool.false_eq_true, l_0, l_1, l_2, l_3, l_4, l_5, l_6, l_7, l_8, l_9, l_10, l_11, l_12, l_13, l_14, l_15, l_16, l_17, l_18, l_19, l_20, l_24, l_30, l_31, l_40, l_45, l_50, l_57, l_58, l_59, l_60, l_61, l_62, l_63, l_64, l_90, l_99, l_100, l_107, l_108, l_109, l_110, l_111, l_299, l_300, l_400, l_407, l_807, g4]
      rfl
  rw [this]; rfl
theorem qwghC (HL : LSpec LR LK) (h : RR LR n Mc Mr) : Tr (f_X6_weigh Mc (Mc.2.2 1 3) (Mc.2.2 1 5)) (fun N => KpC Mc N ∧ N.2.2 1 = Mc.2.2 1 ∧ N.2.2 3 = Mc.2.2 3 ∧ MR N (Mc.2.2 1 3) (Mr.1 110) ∧ (∀ t v, t < tN (Mr.1 110) → v < vN (Mr.1 110) → N.1 83 (t * 10 + v) = lkv LK (Mr.1 110) t v) ∧ ∀ t, t < tN (Mr.1 110) → N.1 84 t = clr LK (Mr.1 110) t) := by
  obtain ⟨hk, hkL, hM, hI, hR⟩ := h.cur
  have hq := md4 hk
  have hl := (lnL hkL).2.2.2.2.2
  obtain ⟨r, r1, r3, r4, r5⟩ := weighC HL hk hkL hM hI hR
  exact ⟨r, r1, fun i h1 h2 h3 h4 h5 => (r3 i (by simp; omega)).1, (r3 1 (by simp <;> omega)).2.2, (r3 3 (by simp <;> omega)).2.2, hM.fr (fun j h1 h2 => (r3 j (by simp; omega)).1), r4, r5⟩
theorem qasksR (HL : LSpec LR LK) (h : RR LR n Mc Mr) (x : Int32) : Tr (f_X10_asks (sI Mr 109 0 x)) (fun N => KpR Mr N ∧ N.1 109 0 = x ∧ N.1 110 = Mr.1 110 ∧ ∀ t v, t < tN (Mr.1 110) → v < vN (Mr.1 110) → N.1 116 (10 * t + v) = lkv LK (Mr.1 110) t v) := by
  obtain ⟨hk, hkL, hM, hI, hR⟩ := h.cur
  have e : (sI Mr 109 0 x).1 110 = Mr.1 110 := sI_fn (by decide)
  obtain ⟨N, n1, n2, n3⟩ := asksR (M := sI Mr 109 0 x) (m := Mr.1 110) HL e hI hR
  have n4 : N.1 110 = Mr.1 110 := (n2.1 110 (by simp)).1.trans e
  exact ⟨N, n1, KpR.t.tr (KpR.of n2 (by simp) (by simp) (by simp) (by simp)), (n2.2 0 (by simp)).trans t0, n4, n3⟩
theorem s_23 (HL : LSpec LR LK) (h : RR LR n Mc Mr) : ∃ Nc Nr, so_23 x1 x2 x3 x4 x5 Mc Mr Nc Nr ∧ RR LR (n + 1) Nc Nr := by
  obtain ⟨hk, hkL, hM, hI, hR⟩ := h.cur
  obtain ⟨e3, hT⟩ := hI.t
  obtain ⟨N, c1, c2, c3, c4, c5, c6, c7⟩ := qwghC HL h
  obtain ⟨K, d1, d2, d3, d4, d5⟩ := qasksR HL h 0
  have gq : gR Mc 1 3 = Mc.2.2 1 3 := rfl
  have gL : gR Mc 1 5 = Mc.2.2 1 5 := rfl
  have gN : gR N 1 3 = Mc.2.2 1 3 := by show N.2.2 1 3 = _; rw [c3]
  have g3 : gI N (Mc.2.2 1 3) 3 = nI (tN (Mr.1 110)) := c5.2.2.1.trans e3
  have r3 : gA K 110 3 = nI (tN (Mr.1 110)) := by show K.1 110 3 = _; rw [d4]; exact e3
  have ib : ibs (3 : Int32) 807 = true := by decide
  refine ⟨N, K, ⟨iter (fun t s => if clr LK (Mr.1 110) t = 0 then s ||| b1 t else s) (tN (Mr.1 110)) 0, ?_, ?_⟩, RR_q HL h c2 ⟨c3, c4⟩ d2⟩
  · unfold f_X9_alone
    rw [Option.bind_some, gq, if_pos hk, Option.bind_some, gL, if_pos hkL, c1, Option.bind_some]
    have : loop FU (fun a_6 => f_X9_alone_L19 N a_6.1 a_6.2) (0, 0) = some (iter (fun t s => if clr LK (Mr.1 110) t = 0 then s ||| b1 t else s) (tN (Mr.1 110)) 0) := by
      refine lpI (fun t s => (s, nI t)) (tN (Mr.1 110)) (fun t s => if clr LK (Mr.1 110) t = 0 then s ||| b1 t else s) id (by omega) 0 rfl (fun t s ht => ?_) (fun s => ?_)
      · show f_X9_alone_L19 N s (nI t) = _
        unfold f_X9_alone_L19
        rw [Option.bind_some, gN, if_pos hk, g3, if_neg (by rw [nI_leI (by omega) (by omega)]; omega), at_nI (N := 9) (by decide) (by omega), c7 t ht, l_1, nI_add]
        by_cases c : clr LK (Mr.1 110) t = 0
        · rw [if_pos c, if_pos c]; rfl
        · rw [if_neg c, if_neg c]
      · show f_X9_alone_L19 N s (nI (tN (Mr.1 110))) = _
        unfold f_X9_alone_L19
        rw [Option.bind_some, gN, if_pos hk, g3, if_pos (by rw [nI_leI (by omega) (by omega)]; omega)]
        rfl
    rw [this]; rfl
  · unfold f_X10_alone
    rw [Option.bind_some, d1, Option.bind_some]
    have : loop FU (fun a_5 => f_X10_alone_L13 K a_5.1 a_5.2) (0, 0) = some (iter (fun t s => if clr LK (Mr.1 110) t = 0 then s ||| b1 t else s) (tN (Mr.1 110)) 0) := by
      refine lpI (fun t s => (s, nI t)) (tN (Mr.1 110)) (fun t s => if clr LK (Mr.1 110) t = 0 then s ||| b1 t else s) id (by omega) 0 rfl (fun t s ht => ?_) (fun s => ?_)
      · show f_X10_alone_L13 K s (nI t) = _
        unfold f_X10_alone_L13
        rw [if_pos ib, r3, if_neg (by rw [nI_leI (by omega) (by omega)]; omega), ringsForR d4 hI d5 ht, Option.bind_some, l_1, nI_add]
        by_cases c : clr LK (Mr.1 110) t = 0
        · rw [if_pos c, if_pos c]; rfl
        · rw [if_neg c, if_neg c, show s ||| 0 = s from Int32.or_zero]
      · show f_X10_alone_L13 K s (nI (tN (Mr.1 110))) = _
        unfold f_X10_alone_L13
        rw [if_pos ib, r3, if_pos (by rw [nI_leI (by omega) (by omega)]; omega)]
        rfl
    rw [this]; rfl
end SETS
