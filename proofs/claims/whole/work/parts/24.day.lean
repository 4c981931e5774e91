/-! a day: liking, who rings, who is had by what: the class -/
theorem Tr.cg {α : Type} {o o2 : Option α} {Q : α → Prop} (h : o = o2) (k : Tr o2 Q) : Tr o Q := by rw [h]; exact k
theorem MR.fr {M N : Mm} {q : Nat} {m : Nat → Int32} (h : MR M q m) (e : ∀ i, q ≤ i → i < q + 4 → N.1 i = M.1 i) : MR N q m := by
  obtain ⟨h1, h2, h3, h4, h5, h6, h7, h8, h9, h10⟩ := h
  have e0 := e q (by omega) (by omega)
  unfold MR
  rw [e0, e (q + 1) (by omega) (by omega), e (q + 2) (by omega) (by omega), e (q + 3) (by omega) (by omega)]
  exact ⟨h1, h2, h3, h4, h5, h6, h7, h8, h9, h10⟩
def rgs (m : Nat → Int32) (t : Nat) (x : Int32) : Bool := decide (m (12 + 5 * t + 3) = nI 1) && (decide (¬ x ≤ nI 0) && decide (¬ x < m (12 + 5 * t + 1) - m (12 + 5 * t + 4)))
theorem rg_if {c1 c2 c3 : Prop} [Decidable c1] [Decidable c2] [Decidable c3] : (if c1 then (if c2 then false else (if c3 then false else true)) else false) = (decide c1 && (decide (¬ c2) && decide (¬ c3))) := by
  by_cases h1 : c1 <;> by_cases h2 : c2 <;> by_cases h3 : c3 <;> simp [h1, h2, h3]
theorem rg_ifo {c1 c2 c3 : Prop} [Decidable c1] [Decidable c2] [Decidable c3] : (if c1 then (if c2 then some false else (if c3 then some false else some true)) else some false) = some (decide c1 && (decide (¬ c2) && decide (¬ c3))) := by
  by_cases h1 : c1 <;> by_cases h2 : c2 <;> by_cases h3 : c3 <;> simp [h1, h2, h3]
section DAY
variable {LR : Mm → Nat → (Nat → Int32) → Prop} {LK : (Nat → Int32) → Nat → Nat → Int32 → Int32} {M : Mm} {q L B : Nat} {m : Nat → Int32}
theorem ringsC (hk : kd q = 4) (h : MR M q m) {t : Nat} (ht : t < 9) (x : Int32) : f_X4_rings M q (nI t) x = rgs m t x := by
  unfold f_X4_rings rgs
  simp (disch := omega) only [a2, a83, a84, a85, a86, a88, a89, a92, a93, a96, p2, p83, p84, p85, p86, p88, p89, p92, p93, p96, a91, a94, a95, p91, p94, p95, gI, gR, sA_nI, gA_nI, at_nI, put_nI, ibs_nI, nI_add, nI_mulI, nI_subI, nI_neg1, nI_leI, nI_ltI, nI_eq, nI_ne_m1, nI_m1_ne, nI_nlt0, Option.bind_some, bnd_some, iteP, iteN, reduceIte, b1_def, or0, if_true, if_false, eq_self, Bool.false_eq_true, l_0, l_1, l_2, l_3, l_4, l_5, l_6, l_7, l_8, l_9, l_10, l_11, l_12, l_13, l_14, l_15, l_16, l_17, l_18, l_19, l_20, l_24, l_30, l_31, l_40, l_45, l_50, l_57, l_58, l_59, l_60, l_61, l_62, l_63, l_64, l_90, l_99, l_100, l_107, l_108, l_109, l_110, l_111, l_299, l_300, l_400, l_407, l_807, ofT hk h, rg_if]
theorem ringsR {t : Nat} (ht : t < 9) (x : Int32) : f_X10_rings M (nI t) x = some (rgs (M.1 110) t x) := by
  unfold f_X10_rings rgs
  simp (disch := omega) only [a2, a83, a84, a85, a86, a88, a89, a92, a93, a96, p2, p83, p84, p85, p86, p88, p89, p92, p93, p96, a91, a94, a95, p91, p94, p95, gI, gR, sA_nI, gA_nI, at_nI, put_nI, ibs_nI, nI_add, nI_mulI, nI_subI, nI_neg1, nI_leI, nI_ltI, nI_eq, nI_ne_m1, nI_m1_ne, nI_nlt0, Option.bind_some, bnd_some, iteP, iteN, reduceIte, b1_def, or0, if_true, if_false, eq_self, Bool.false_eq_true, l_0, l_1, l_2, l_3, l_4, l_5, l_6, l_7, l_8, l_9, l_10, l_11, l_12, l_13, l_14, l_15, l_16, l_17, l_18, l_19, l_20, l_24, l_30, l_31, l_40, l_45, l_50, l_57, l_58, l_59, l_60, l_61, l_62, l_63, l_64, l_90, l_99, l_100, l_107, l_108, l_109, l_110, l_111, l_299, l_300, l_400, l_407, l_807, ofR, rg_ifo]
/-- LIKING of all by all -/
def lkv (LK : (Nat → Int32) → Nat → Nat → Int32 → Int32) (m : Nat → Int32) (t v : Nat) : Int32 := LK m t v (m (57 + 5 * v + 4))
def clr (LK : (Nat → Int32) → Nat → Nat → Int32 → Int32) (m : Nat → Int32) (t : Nat) : Int32 := bset (fun v => rgs m t (lkv LK m t v)) (vN m)
theorem listenC (hk : kd q = 4) (h : MR M q m) (hI : Inv m B) (lkf : Nat → Nat → Int32) (hl : ∀ t v, t < tN m → v < vN m → M.1 83 (t * 10 + v) = lkf t v) : Tr (f_X6_listen M q) (fun N => Fr [84] M N ∧ ∀ t, t < tN m → N.1 84 t = bset (fun v => rgs m t (lkf t v)) (vN m)) := by
  obtain ⟨e3, hT⟩ := hI.t
  obtain ⟨e4, hV⟩ := hI.v
  have hq := (lnM hk).2.2.2
  unfold f_X6_listen
  refine Tr.bind (Q := fun N => Fr [84] M N ∧ ∀ t, t < tN m → N.1 84 t = bset (fun v => rgs m t (lkf t v)) (vN m)) ?_ (fun N hN => Tr.some hN)
  refine lp0 (fun i (N : Mm) => (N, nI i)) (tN m) (fun i N => Fr [84] M N ∧ ∀ t, t < i → N.1 84 t = bset (fun v => rgs m t (lkf t v)) (vN m)) (by omega) M rfl ⟨Fr.rf, fun t ht => absurd ht (Nat.not_lt_zero t)⟩ (fun i N hi hP => ?_) (fun N hP => ?_)
  · obtain ⟨hF, hP⟩ := hP
    have hM : MR N q m := h.fr (fun j h1 h2 => (hF j (by simp; omega)).1)
    have g3 : N.1 q 3 = nI (tN m) := hM.2.2.1.trans e3
    have g4 : N.1 q 4 = nI (vN m) := hM.2.2.2.1.trans e4
    have g83 : ∀ t v, t < tN m → v < vN m → N.1 83 (t * 10 + v) = lkf t v := fun t v a b => by rw [(hF 83 (by simp)).1]; exact hl t v a b
    have hin : loop FU (fun a_2 => f_X6_listen_L15 N q (nI i) a_2.1 a_2.2) (nI 0, nI 0) = some (bset (fun v => rgs m i (lkf i v)) (vN m)) := by
      refine lpI (fun v s => (s, nI v)) (vN m) (fun v s => if rgs m i (lkf i v) = true then s ||| b1 v else s) id (by omega) 0 rfl (fun v s hv => ?_) (fun s => ?_)
      · unfold f_X6_listen_L15 f_X6_likes
        simp (disch := omega) only [a2, a83, a84, a85, a86, a88, a89, a92, a93, a96, p2, p83, p84, p85, p86, p88, p89, p92, p93, p96, a91, a94, a95, p91, p94, p95, gI, gR, sA_nI, gA_nI, at_nI, put_nI, ibs_nI, nI_add, nI_mulI, nI_subI, nI_neg1, nI_leI, nI_ltI, nI_eq, nI_ne_m1, nI_m1_ne, nI_nlt0, Option.bind_some, bnd_some, iteP, iteN, reduceIte, b1_def, or0, if_true, if_false, eq_self, Bool.false_eq_true, l_0, l_1, l_2, l_3, l_4, l_5, l_6, l_7, l_8, l_9, l_10, l_11, l_12, l_13, l_14, l_15, l_16, l_17, l_18, l_19, l_20, l_24, l_30, l_31, l_40, l_45, l_50, l_57, l_58, l_59, l_60, l_61, l_62, l_63, l_64, l_90, l_99, l_100, l_107, l_108, l_109, l_110, l_111, l_299, l_300, l_400, l_407, l_807, g4, ringsC hk hM, g83]
        by_cases hr : rgs m i (lkf i v) = true <;> simp [hr]
      · unfold f_X6_listen_L15
        simp (disch := omega) only [a2, a83, a84, a85, a86, a88, a89, a92, a93, a96, p2, p83, p84, p85, p86, p88, p89, p92, p93, p96, a91, a94, a95, p91, p94, p95, gI, gR, sA_nI, gA_nI, at_nI, put_nI, ibs_nI, nI_add, nI_mulI, nI_subI, nI_neg1, nI_leI, nI_ltI, nI_eq, nI_ne_m1, nI_m1_ne, nI_nlt0, Option.bind_some, bnd_some, iteP, iteN, reduceIte, b1_def, or0, if_true, if_false, eq_self, Bool.false_eq_true, l_0, l_1, l_2, l_3, l_4, l_5, l_6, l_7, l_8, l_9, l_10, l_11, l_12, l_13, l_14, l_15, l_16, l_17, l_18, l_19, l_20, l_24, l_30, l_31, l_40, l_45, l_50, l_57, l_58, l_59, l_60, l_61, l_62, l_63, l_64, l_90, l_99, l_100, l_107, l_108, l_109, l_110, l_111, l_299, l_300, l_400, l_407, l_807, g4]
        rfl
    unfold f_X6_listen_L2
    simp (disch := omega) only [a2, a83, a84, a85, a86, a88, a89, a92, a93, a96, p2, p83, p84, p85, p86, p88, p89, p92, p93, p96, a91, a94, a95, p91, p94, p95, gI, gR, sA_nI, gA_nI, at_nI, put_nI, ibs_nI, nI_add, nI_mulI, nI_subI, nI_neg1, nI_leI, nI_ltI, nI_eq, nI_ne_m1, nI_m1_ne, nI_nlt0, Option.bind_some, bnd_some, iteP, iteN, reduceIte, b1_def, or0, if_true, if_false, eq_self, Bool.false_eq_true, l_0, l_1, l_2, l_3, l_4, l_5, l_6, l_7, l_8, l_9, l_10, l_11, l_12, l_13, l_14, l_15, l_16, l_17, l_18, l_19, l_20, l_24, l_30, l_31, l_40, l_45, l_50, l_57, l_58, l_59, l_60, l_61, l_62, l_63, l_64, l_90, l_99, l_100, l_107, l_108, l_109, l_110, l_111, l_299, l_300, l_400, l_407, l_807, g3]
    rw [hin]
    simp (disch := omega) only [a2, a83, a84, a85, a86, a88, a89, a92, a93, a96, p2, p83, p84, p85, p86, p88, p89, p92, p93, p96, a91, a94, a95, p91, p94, p95, gI, gR, sA_nI, gA_nI, at_nI, put_nI, ibs_nI, nI_add, nI_mulI, nI_subI, nI_neg1, nI_leI, nI_ltI, nI_eq, nI_ne_m1, nI_m1_ne, nI_nlt0, Option.bind_some, bnd_some, iteP, iteN, reduceIte, b1_def, or0, if_true, if_false, eq_self, Bool.false_eq_true, l_0, l_1, l_2, l_3, l_4, l_5, l_6, l_7, l_8, l_9, l_10, l_11, l_12, l_13, l_14, l_15, l_16, l_17, l_18, l_19, l_20, l_24, l_30, l_31, l_40, l_45, l_50, l_57, l_58, l_59, l_60, l_61, l_62, l_63, l_64, l_90, l_99, l_100, l_107, l_108, l_109, l_110, l_111, l_299, l_300, l_400, l_407, l_807]
    refine Tr.some (Or.inl ⟨_, rfl, hF.tr (Fr.sI (by simp)), fun t ht => ?_⟩)
    rw [sI_at]
    by_cases e : t = i
    · subst e; simp
    · have : t < i := by omega
      simp [e, hP t this]
  · obtain ⟨hF, hP⟩ := hP
    have hM : MR N q m := h.fr (fun j h1 h2 => (hF j (by simp; omega)).1)
    have g3 : N.1 q 3 = nI (tN m) := hM.2.2.1.trans e3
    unfold f_X6_listen_L2
    simp (disch := omega) only [a2, a83, a84, a85, a86, a88, a89, a92, a93, a96, p2, p83, p84, p85, p86, p88, p89, p92, p93, p96, a91, a94, a95, p91, p94, p95, gI, gR, sA_nI, gA_nI, at_nI, put_nI, ibs_nI, nI_add, nI_mulI, nI_subI, nI_neg1, nI_leI, nI_ltI, nI_eq, nI_ne_m1, nI_m1_ne, nI_nlt0, Option.bind_some, bnd_some, iteP, iteN, reduceIte, b1_def, or0, if_true, if_false, eq_self, Bool.false_eq_true, l_0, l_1, l_2, l_3, l_4, l_5, l_6, l_7, l_8, l_9, l_10, l_11, l_12, l_13, l_14, l_15, l_16, l_17, l_18, l_19, l_20, l_24, l_30, l_31, l_40, l_45, l_50, l_57, l_58, l_59, l_60, l_61, l_62, l_63, l_64, l_90, l_99, l_100, l_107, l_108, l_109, l_110, l_111, l_299, l_300, l_400, l_407, l_807, g3]
    exact Tr.some ⟨_, rfl, hF, hP⟩
theorem weighC (HL : LSpec LR LK) (hk : kd q = 4) (hkL : kd L = 2) (h : MR M q m) (hI : Inv m B) (hR : LR M L m) : Tr (f_X6_weigh M q L) (fun N => Fr [L + 5, 83, 84] M N ∧ (∀ t v, t < tN m → v < vN m → N.1 83 (t * 10 + v) = lkv LK m t v) ∧ ∀ t, t < tN m → N.1 84 t = clr LK m t) := by
  obtain ⟨e3, hT⟩ := hI.t
  obtain ⟨e4, hV⟩ := hI.v
  have hq := (lnM hk).2.2.2
  have hL := (lnL hkL).2.2.2.2.2
  unfold f_X6_weigh
  refine Tr.bind (Q := fun N => Fr [L + 5, 83] M N ∧ ∀ t v, t < tN m → v < vN m → N.1 83 (t * 10 + v) = lkv LK m t v) ?_ (fun N hN => ?_)
  · refine lp0 (fun i (N : Mm) => (N, nI i)) (tN m) (fun i N => Fr [L + 5, 83] M N ∧ ∀ t v, t < i → v < vN m → N.1 83 (t * 10 + v) = lkv LK m t v) (by omega) M rfl ⟨Fr.rf, fun t v ht => absurd ht (Nat.not_lt_zero t)⟩ (fun i N hi hP => ?_) (fun N hP => ?_)
    · obtain ⟨hF, hP⟩ := hP
      have hM : MR N q m := h.fr (fun j h1 h2 => (hF j (by simp; omega)).1)
      have g3 : N.1 q 3 = nI (tN m) := hM.2.2.1.trans e3
      have hin : Tr (loop FU (fun a_4 => f_X6_weigh_L13 a_4.1 q L (nI i) a_4.2) (N, nI 0)) (fun N2 => Fr [L + 5, 83] M N2 ∧ ∀ t v, t < i + 1 → v < vN m → N2.1 83 (t * 10 + v) = lkv LK m t v) := by
        refine lp0 (fun k (N : Mm) => (N, nI k)) (vN m) (fun k N2 => Fr [L + 5, 83] M N2 ∧ ∀ t v, (t < i ∧ v < vN m ∨ t = i ∧ v < k) → N2.1 83 (t * 10 + v) = lkv LK m t v) (by omega) N rfl ⟨hF, fun t v hv => ?_⟩ (fun k N2 hk2 hP2 => ?_) (fun N2 hP2 => ?_)
        · exact hP t v (by omega) (by omega)
        · obtain ⟨hF2, hP2⟩ := hP2
          have hM2 : MR N2 q m := h.fr (fun j h1 h2 => (hF2 j (by simp; omega)).1)
          have g4 : N2.1 q 4 = nI (vN m) := hM2.2.2.2.1.trans e4
          have hR2 : LR N2 L m := HL.1 _ _ _ _ hR (fun j h1 h2 => (hF2 j (by simp; omega)).1)
          unfold f_X6_weigh_L13
          simp (disch := omega) only [a2, a83, a84, a85, a86, a88, a89, a92, a93, a96, p2, p83, p84, p85, p86, p88, p89, p92, p93, p96, a91, a94, a95, p91, p94, p95, gI, gR, sA_nI, gA_nI, at_nI, put_nI, ibs_nI, nI_add, nI_mulI, nI_subI, nI_neg1, nI_leI, nI_ltI, nI_eq, nI_ne_m1, nI_m1_ne, nI_nlt0, Option.bind_some, bnd_some, iteP, iteN, reduceIte, b1_def, or0, if_true, if_false, eq_self, Bool.false_eq_true, l_0, l_1, l_2, l_3, l_4, l_5, l_6, l_7, l_8, l_9, l_10, l_11, l_12, l_13, l_14, l_15, l_16, l_17, l_18, l_19, l_20, l_24, l_30, l_31, l_40, l_45, l_50, l_57, l_58, l_59, l_60, l_61, l_62, l_63, l_64, l_90, l_99, l_100, l_107, l_108, l_109, l_110, l_111, l_299, l_300, l_400, l_407, l_807, g4]
          refine Tr.bind (HL.2.2.2.1 N2 q L m i k B hk hkL hM2 hI hR2 hi hk2) (fun r hr => ?_)
          obtain ⟨r1, hF3⟩ := hr
          refine Tr.some (Or.inl ⟨_, rfl, (hF2.tr (hF3.mono (by simp))).tr (Fr.sI (by simp)), fun t v hv => ?_⟩)
          rw [sI_at]
          by_cases e : t * 10 + v = i * 10 + k
          · have e1 : t = i := by omega
            have e2 : v = k := by omega
            subst e1; subst e2
            simp [r1, lkv]
          · simp only [e, and_false, if_false]
            rw [(hF3 83 (by simp; omega)).1]
            exact hP2 t v (by omega)
        · obtain ⟨hF2, hP2⟩ := hP2
          have hM2 : MR N2 q m := h.fr (fun j h1 h2 => (hF2 j (by simp; omega)).1)
          have g4 : N2.1 q 4 = nI (vN m) := hM2.2.2.2.1.trans e4
          unfold f_X6_weigh_L13
          simp (disch := omega) only [a2, a83, a84, a85, a86, a88, a89, a92, a93, a96, p2, p83, p84, p85, p86, p88, p89, p92, p93, p96, a91, a94, a95, p91, p94, p95, gI, gR, sA_nI, gA_nI, at_nI, put_nI, ibs_nI, nI_add, nI_mulI, nI_subI, nI_neg1, nI_leI, nI_ltI, nI_eq, nI_ne_m1, nI_m1_ne, nI_nlt0, Option.bind_some, bnd_some, iteP, iteN, reduceIte, b1_def, or0, if_true, if_false, eq_self, Bool.false_eq_true, l_0, l_1, l_2, l_3, l_4, l_5, l_6, l_7, l_8, l_9, l_10, l_11, l_12, l_13, l_14, l_15, l_16, l_17, l_18, l_19, l_20, l_24, l_30, l_31, l_40, l_45, l_50, l_57, l_58, l_59, l_60, l_61, l_62, l_63, l_64, l_90, l_99, l_100, l_107, l_108, l_109, l_110, l_111, l_299, l_300, l_400, l_407, l_807, g4]
          exact Tr.some ⟨_, rfl, hF2, fun t v h1 h2 => hP2 t v (by omega)⟩
      unfold f_X6_weigh_L2
      simp (disch := omega) only [a2, a83, a84, a85, a86, a88, a89, a92, a93, a96, p2, p83, p84, p85, p86, p88, p89, p92, p93, p96, a91, a94, a95, p91, p94, p95, gI, gR, sA_nI, gA_nI, at_nI, put_nI, ibs_nI, nI_add, nI_mulI, nI_subI, nI_neg1, nI_leI, nI_ltI, nI_eq, nI_ne_m1, nI_m1_ne, nI_nlt0, Option.bind_some, bnd_some, iteP, iteN, reduceIte, b1_def, or0, if_true, if_false, eq_self, Bool.false_eq_true, l_0, l_1, l_2, l_3, l_4, l_5, l_6, l_7, l_8, l_9, l_10, l_11, l_12, l_13, l_14, l_15, l_16, l_17, l_18, l_19, l_20, l_24, l_30, l_31, l_40, l_45, l_50, l_57, l_58, l_59, l_60, l_61, l_62, l_63, l_64, l_90, l_99, l_100, l_107, l_108, l_109, l_110, l_111, l_299, l_300, l_400, l_407, l_807, g3]
      refine Tr.bind hin (fun N2 hN2 => ?_)
      exact Tr.some (Or.inl ⟨_, rfl, hN2.1, hN2.2⟩)
    · obtain ⟨hF, hP⟩ := hP
      have hM : MR N q m := h.fr (fun j h1 h2 => (hF j (by simp; omega)).1)
      have g3 : N.1 q 3 = nI (tN m) := hM.2.2.1.trans e3
      unfold f_X6_weigh_L2
      simp (disch := omega) only [a2, a83, a84, a85, a86, a88, a89, a92, a93, a96, p2, p83, p84, p85, p86, p88, p89, p92, p93, p96, a91, a94, a95, p91, p94, p95, gI, gR, sA_nI, gA_nI, at_nI, put_nI, ibs_nI, nI_add, nI_mulI, nI_subI, nI_neg1, nI_leI, nI_ltI, nI_eq, nI_ne_m1, nI_m1_ne, nI_nlt0, Option.bind_some, bnd_some, iteP, iteN, reduceIte, b1_def, or0, if_true, if_false, eq_self, Bool.false_eq_true, l_0, l_1, l_2, l_3, l_4, l_5, l_6, l_7, l_8, l_9, l_10, l_11, l_12, l_13, l_14, l_15, l_16, l_17, l_18, l_19, l_20, l_24, l_30, l_31, l_40, l_45, l_50, l_57, l_58, l_59, l_60, l_61, l_62, l_63, l_64, l_90, l_99, l_100, l_107, l_108, l_109, l_110, l_111, l_299, l_300, l_400, l_407, l_807, g3]
      exact Tr.some ⟨_, rfl, hF, hP⟩
  · obtain ⟨hF, hP⟩ := hN
    have hM : MR N q m := h.fr (fun j h1 h2 => (hF j (by simp; omega)).1)
    refine Tr.bind (listenC hk hM hI (lkv LK m) hP) (fun K hK => ?_)
    refine Tr.some ⟨(hF.mono (by simp)).tr (hK.1.mono (by simp)), fun t v h1 h2 => ?_, hK.2⟩
    rw [(hK.1 83 (by simp)).1]
    exact hP t v h1 h2
end DAY
