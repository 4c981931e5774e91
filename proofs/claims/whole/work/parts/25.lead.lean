/-! visitors led past: the class -/
def oI : Option Nat → Int32
  | none => -1
  | some t => nI t
def stp (m : Nat → Int32) (t : Nat) : Int32 := m (12 + 5 * t + 0) / m 5
def rmN (m : Nat → Int32) (t : Nat) : Nat := (m (12 + 5 * t + 2)).toNatClampNeg
def acc (m : Nat → Int32) (lk : Nat → Int32) (t : Nat) : Option Nat → Bool
  | none => true
  | some u => decide (stp m t < stp m u) || (decide (stp m t = stp m u) && decide (¬ lk t ≤ lk u))
def pkS (m : Nat → Int32) (lk : Nat → Int32) (ok : Nat → Bool) (n : Nat) : Option Nat := iter (fun t b => if (ok t && acc m lk t b) = true then some t else b) n none
theorem nI_divI {a b : Nat} (ha : a < 2 ^ 31) (hb : 0 < b) (hb2 : b < 2 ^ 31) : nI a / nI b = nI (a / b) := by
  apply Int32.toInt_inj.mp
  have h3 : a / b < 2 ^ 31 := Nat.lt_of_le_of_lt (Nat.div_le_self a b) ha
  have h4 : a / b ≤ a := Nat.div_le_self a b
  rw [Int32.toInt_div, nI_toInt ha, nI_toInt hb2, nI_toInt h3, Int.tdiv_eq_ediv_of_nonneg (by omega)]
  rw [show ((a : Int) / (b : Int)) = ((a / b : Nat) : Int) from (Int.natCast_ediv a b).symm]
  generalize a / b = z at h3 h4 ⊢
  exact Int.bmod_eq_of_le (by omega) (by omega)
section LEAD
variable {LR : Mm → Nat → (Nat → Int32) → Prop} {LK : (Nat → Int32) → Nat → Nat → Int32 → Int32} {M : Mm} {q L B : Nat} {m : Nat → Int32}
theorem Inv.c (h : Inv m B) {t : Nat} (ht : t < tN m) : ∃ c, m (12 + 5 * t + 0) = nI c ∧ c ≤ 19 := ⟨_, (h.2.2.2.2.2.2.1 t ht).1.1, (h.2.2.2.2.2.2.1 t ht).1.2⟩
theorem Inv.rm (h : Inv m B) {t : Nat} (ht : t < tN m) : m (12 + 5 * t + 2) = nI (rmN m t) ∧ 1 ≤ rmN m t ∧ rmN m t ≤ 3 := ⟨(h.2.2.2.2.2.2.1 t ht).2.1.1.1, (h.2.2.2.2.2.2.1 t ht).2.1.2, (h.2.2.2.2.2.2.1 t ht).2.1.1.2⟩
theorem stp_nI (h : Inv m B) {t : Nat} (ht : t < tN m) : ∃ k, stp m t = nI k ∧ k ≤ 19 := by
  obtain ⟨c, hc, hc2⟩ := h.c ht
  obtain ⟨k, hk, hk1, hk2⟩ := h.sp
  refine ⟨c / k, ?_, Nat.le_trans (Nat.div_le_self c k) hc2⟩
  unfold stp
  rw [hc, hk, nI_divI (by omega) (by omega) (by omega)]
theorem stepC (h : MR M q m) (hI : Inv m B) (x : Int32) : t_X4_stepOf M q x = x / m 5 := by
  obtain ⟨k, hk, hk1, hk2⟩ := hI.sp
  unfold t_X4_stepOf
  have e : M.1 q 6 = nI k := h.2.2.2.2.2.1.trans hk
  simp (disch := omega) only [a2, a83, a84, a85, a86, a88, a89, a92, a93, a96, p2, p83, p84, p85, p86, p88, p89, p92, p93, p96, a91, a94, a95, p91, p94, p95, gI, gR, sA_nI, gA_nI, at_nI, put_nI, ibs_nI, nI_add, nI_mulI, nI_subI, nI_neg1, nI_leI, nI_ltI, nI_eq, nI_ne_m1, nI_m1_ne, nI_nlt0, Option.bind_some, bnd_some, iteP, iteN, reduceIte, b1_def, or0, if_true, if_false, eq_self, Bool.false_eq_true, l_0, l_1, l_2, l_3, l_4, l_5, l_6, l_7, l_8, l_9, l_10, l_11, l_12, l_13, l_14, l_15, l_16, l_17, l_18, l_19, l_20, l_24, l_30, l_31, l_40, l_45, l_50, l_57, l_58, l_59, l_60, l_61, l_62, l_63, l_64, l_90, l_99, l_100, l_107, l_108, l_109, l_110, l_111, l_299, l_300, l_400, l_407, l_807, e, hk]
theorem callsC {t v : Nat} {p : Nat → Bool} {n : Nat} (hn : n ≤ 32) (ht : t < 9) (hv : v < n) (h : M.1 84 t = bset p n) : f_X6_calls M (nI t) (nI v) = p v := by
  unfold f_X6_calls
  simp (disch := omega) only [a2, a83, a84, a85, a86, a88, a89, a92, a93, a96, p2, p83, p84, p85, p86, p88, p89, p92, p93, p96, a91, a94, a95, p91, p94, p95, gI, gR, sA_nI, gA_nI, at_nI, put_nI, ibs_nI, nI_add, nI_mulI, nI_subI, nI_neg1, nI_leI, nI_ltI, nI_eq, nI_ne_m1, nI_m1_ne, nI_nlt0, Option.bind_some, bnd_some, iteP, iteN, reduceIte, b1_def, or0, if_true, if_false, eq_self, Bool.false_eq_true, l_0, l_1, l_2, l_3, l_4, l_5, l_6, l_7, l_8, l_9, l_10, l_11, l_12, l_13, l_14, l_15, l_16, l_17, l_18, l_19, l_20, l_24, l_30, l_31, l_40, l_45, l_50, l_57, l_58, l_59, l_60, l_61, l_62, l_63, l_64, l_90, l_99, l_100, l_107, l_108, l_109, l_110, l_111, l_299, l_300, l_400, l_407, l_807, h, bt_tst, bt_bset]
  have : decide (v < n) = true := by simpa using hv
  rw [this]
  cases p v <;> rfl
def bstp (m : Nat → Int32) : Option Nat → Int32
  | none => nI 20
  | some t => stp m t
theorem firstC (hk : kd q = 4) (h : MR M q m) (hI : Inv m B) {v : Nat} (hv : v < vN m) (rl : Nat → Nat) (h86 : ∀ t, t < tN m → M.1 86 t = nI (rl t) ∧ rl t ≤ 3) (h83 : ∀ t v, t < tN m → v < vN m → M.1 83 (t * 10 + v) = lkv LK m t v) (h84 : ∀ t, t < tN m → M.1 84 t = clr LK m t) : f_X6_firstToRing M q (nI v) = some (oI (pkS m (fun t => lkv LK m t v) (fun t => decide (0 < rl t) && rgs m t (lkv LK m t v)) (tN m))) := by
  obtain ⟨e3, hT⟩ := hI.t
  obtain ⟨e4, hV⟩ := hI.v
  have g3 : M.1 q 3 = nI (tN m) := h.2.2.1.trans e3
  unfold f_X6_firstToRing
  have hlt : ∀ n, n ≤ tN m → ∀ u, pkS m (fun t => lkv LK m t v) (fun t => decide (0 < rl t) && rgs m t (lkv LK m t v)) n = some u → u < n := by
    intro n
    induction n with
    | zero => intro _ u hu; cases hu
    | succ n ih =>
      intro hn u hu
      unfold pkS iter at hu
      by_cases hc : ((decide (0 < rl n) && rgs m n (lkv LK m n v)) && acc m (fun t => lkv LK m t v) n (iter (fun t b => if ((decide (0 < rl t) && rgs m t (lkv LK m t v)) && acc m (fun t => lkv LK m t v) t b) = true then some t else b) n none)) = true
      · rw [if_pos hc] at hu; cases hu; omega
      · rw [if_neg hc] at hu; have := ih (by omega) u hu; omega
  have key : loop FU (fun a_2 => f_X6_firstToRing_L9 M q (nI v) a_2.1 a_2.2.1 a_2.2.2) (-1, nI 20, nI 0) = some (oI (pkS m (fun t => lkv LK m t v) (fun t => decide (0 < rl t) && rgs m t (lkv LK m t v)) (tN m))) := by
    refine (lp0 (Q := fun r => r = oI (pkS m (fun t => lkv LK m t v) (fun t => decide (0 < rl t) && rgs m t (lkv LK m t v)) (tN m))) (fun i (b : Option Nat) => (oI b, bstp m b, nI i)) (tN m) (fun i b => b = pkS m (fun t => lkv LK m t v) (fun t => decide (0 < rl t) && rgs m t (lkv LK m t v)) i) (by omega) none rfl rfl (fun t b ht hP => ?_) (fun b hP => ?_)).eq
    · refine ⟨.inl (oI (if ((decide (0 < rl t) && rgs m t (lkv LK m t v)) && acc m (fun t => lkv LK m t v) t b) = true then some t else b), bstp m (if ((decide (0 < rl t) && rgs m t (lkv LK m t v)) && acc m (fun t => lkv LK m t v) t b) = true then some t else b), nI (t + 1)), ?_, Or.inl ⟨_, rfl, ?_⟩⟩
      · obtain ⟨r1, r2⟩ := h86 t ht
        have c1 : f_X6_calls M (nI t) (nI v) = rgs m t (lkv LK m t v) := callsC (by omega) (by omega) hv (h84 t ht)
        have l1 : f_X6_likes M (nI t) (nI v) = lkv LK m t v := by unfold f_X6_likes; simp (disch := omega) only [a2, a83, a84, a85, a86, a88, a89, a92, a93, a96, p2, p83, p84, p85, p86, p88, p89, p92, p93, p96, a91, a94, a95, p91, p94, p95, gI, gR, sA_nI, gA_nI, at_nI, put_nI, ibs_nI, nI_add, nI_mulI, nI_subI, nI_neg1, nI_leI, nI_ltI, nI_eq, nI_ne_m1, nI_m1_ne, nI_nlt0, Option.bind_some, bnd_some, iteP, iteN, reduceIte, b1_def, or0, if_true, if_false, eq_self, Bool.false_eq_true, l_0, l_1, l_2, l_3, l_4, l_5, l_6, l_7, l_8, l_9, l_10, l_11, l_12, l_13, l_14, l_15, l_16, l_17, l_18, l_19, l_20, l_24, l_30, l_31, l_40, l_45, l_50, l_57, l_58, l_59, l_60, l_61, l_62, l_63, l_64, l_90, l_99, l_100, l_107, l_108, l_109, l_110, l_111, l_299, l_300, l_400, l_407, l_807, h83]
        have s1 : t_X4_stepOf M q (f_X4_ofThing M q (nI t) (nI 0)) = stp m t := by rw [stepC h hI, ofT hk h (by omega) (by omega)]; rfl
        obtain ⟨k1, k2, k3⟩ := stp_nI hI ht
        unfold f_X6_firstToRing_L9
        simp (disch := omega) only [a2, a83, a84, a85, a86, a88, a89, a92, a93, a96, p2, p83, p84, p85, p86, p88, p89, p92, p93, p96, a91, a94, a95, p91, p94, p95, gI, gR, sA_nI, gA_nI, at_nI, put_nI, ibs_nI, nI_add, nI_mulI, nI_subI, nI_neg1, nI_leI, nI_ltI, nI_eq, nI_ne_m1, nI_m1_ne, nI_nlt0, Option.bind_some, bnd_some, iteP, iteN, reduceIte, b1_def, or0, if_true, if_false, eq_self, Bool.false_eq_true, l_0, l_1, l_2, l_3, l_4, l_5, l_6, l_7, l_8, l_9, l_10, l_11, l_12, l_13, l_14, l_15, l_16, l_17, l_18, l_19, l_20, l_24, l_30, l_31, l_40, l_45, l_50, l_57, l_58, l_59, l_60, l_61, l_62, l_63, l_64, l_90, l_99, l_100, l_107, l_108, l_109, l_110, l_111, l_299, l_300, l_400, l_407, l_807, g3, r1, c1, s1, l1]
        by_cases hr0 : rl t = 0
        · have : ¬ 0 < rl t := by omega
          simp (disch := omega) only [a2, a83, a84, a85, a86, a88, a89, a92, a93, a96, p2, p83, p84, p85, p86, p88, p89, p92, p93, p96, a91, a94, a95, p91, p94, p95, gI, gR, sA_nI, gA_nI, at_nI, put_nI, ibs_nI, nI_add, nI_mulI, nI_subI, nI_neg1, nI_leI, nI_ltI, nI_eq, nI_ne_m1, nI_m1_ne, nI_nlt0, Option.bind_some, bnd_some, iteP, iteN, reduceIte, b1_def, or0, if_true, if_false, eq_self, Bool.false_eq_true, l_0, l_1, l_2, l_3, l_4, l_5, l_6, l_7, l_8, l_9, l_10, l_11, l_12, l_13, l_14, l_15, l_16, l_17, l_18, l_19, l_20, l_24, l_30, l_31, l_40, l_45, l_50, l_57, l_58, l_59, l_60, l_61, l_62, l_63, l_64, l_90, l_99, l_100, l_107, l_108, l_109, l_110, l_111, l_299, l_300, l_400, l_407, l_807, hr0]
          simp
        · have hr1 : 0 < rl t := by omega
          simp (disch := omega) only [a2, a83, a84, a85, a86, a88, a89, a92, a93, a96, p2, p83, p84, p85, p86, p88, p89, p92, p93, p96, a91, a94, a95, p91, p94, p95, gI, gR, sA_nI, gA_nI, at_nI, put_nI, ibs_nI, nI_add, nI_mulI, nI_subI, nI_neg1, nI_leI, nI_ltI, nI_eq, nI_ne_m1, nI_m1_ne, nI_nlt0, Option.bind_some, bnd_some, iteP, iteN, reduceIte, b1_def, or0, if_true, if_false, eq_self, Bool.false_eq_true, l_0, l_1, l_2, l_3, l_4, l_5, l_6, l_7, l_8, l_9, l_10, l_11, l_12, l_13, l_14, l_15, l_16, l_17, l_18, l_19, l_20, l_24, l_30, l_31, l_40, l_45, l_50, l_57, l_58, l_59, l_60, l_61, l_62, l_63, l_64, l_90, l_99, l_100, l_107, l_108, l_109, l_110, l_111, l_299, l_300, l_400, l_407, l_807]
          by_cases hr : rgs m t (lkv LK m t v) = true
          · simp only [hr, hr1, decide_true, Bool.true_and, if_true]
            unfold f_X6_firstToRing_J9_80 f_X6_firstToRing_J9_81 f_X6_firstToRing_J9_95
            cases b with
            | none =>
              show (if stp m t = nI 20 then _ else _) = _
              rw [k2, if_neg (by rw [nI_eq (by omega) (by omega)]; omega)]
              simp (disch := omega) only [a2, a83, a84, a85, a86, a88, a89, a92, a93, a96, p2, p83, p84, p85, p86, p88, p89, p92, p93, p96, a91, a94, a95, p91, p94, p95, gI, gR, sA_nI, gA_nI, at_nI, put_nI, ibs_nI, nI_add, nI_mulI, nI_subI, nI_neg1, nI_leI, nI_ltI, nI_eq, nI_ne_m1, nI_m1_ne, nI_nlt0, Option.bind_some, bnd_some, iteP, iteN, reduceIte, b1_def, or0, if_true, if_false, eq_self, Bool.false_eq_true, l_0, l_1, l_2, l_3, l_4, l_5, l_6, l_7, l_8, l_9, l_10, l_11, l_12, l_13, l_14, l_15, l_16, l_17, l_18, l_19, l_20, l_24, l_30, l_31, l_40, l_45, l_50, l_57, l_58, l_59, l_60, l_61, l_62, l_63, l_64, l_90, l_99, l_100, l_107, l_108, l_109, l_110, l_111, l_299, l_300, l_400, l_407, l_807, bstp]
              simp [acc, oI, bstp, k2]
            | some u =>
              have hu : u < t := hlt t (by omega) u hP.symm
              have l2 : f_X6_likes M (nI u) (nI v) = lkv LK m u v := by unfold f_X6_likes; simp (disch := omega) only [a2, a83, a84, a85, a86, a88, a89, a92, a93, a96, p2, p83, p84, p85, p86, p88, p89, p92, p93, p96, a91, a94, a95, p91, p94, p95, gI, gR, sA_nI, gA_nI, at_nI, put_nI, ibs_nI, nI_add, nI_mulI, nI_subI, nI_neg1, nI_leI, nI_ltI, nI_eq, nI_ne_m1, nI_m1_ne, nI_nlt0, Option.bind_some, bnd_some, iteP, iteN, reduceIte, b1_def, or0, if_true, if_false, eq_self, Bool.false_eq_true, l_0, l_1, l_2, l_3, l_4, l_5, l_6, l_7, l_8, l_9, l_10, l_11, l_12, l_13, l_14, l_15, l_16, l_17, l_18, l_19, l_20, l_24, l_30, l_31, l_40, l_45, l_50, l_57, l_58, l_59, l_60, l_61, l_62, l_63, l_64, l_90, l_99, l_100, l_107, l_108, l_109, l_110, l_111, l_299, l_300, l_400, l_407, l_807, h83]
              show (if stp m t = stp m u then (if lkv LK m t v ≤ f_X6_likes M (nI u) (nI v) then _ else _) else _) = _
              rw [l2]
              by_cases a1 : stp m t = stp m u
              · by_cases a2 : lkv LK m t v ≤ lkv LK m u v
                · by_cases a3 : stp m t < stp m u <;> simp [acc, oI, bstp, a1, a2, a3, nI_1, show ¬ nI 1 = (0 : Int32) from by decide]
                · by_cases a3 : stp m t < stp m u <;> simp [acc, oI, bstp, a1, a2, a3, nI_1, show ¬ nI 1 = (0 : Int32) from by decide]
              · by_cases a3 : stp m t < stp m u <;> simp [acc, oI, bstp, a1, a3, nI_1, show ¬ nI 1 = (0 : Int32) from by decide]
          · simp [hr]
      · rw [hP]; rfl
    · unfold f_X6_firstToRing_L9
      simp (disch := omega) only [a2, a83, a84, a85, a86, a88, a89, a92, a93, a96, p2, p83, p84, p85, p86, p88, p89, p92, p93, p96, a91, a94, a95, p91, p94, p95, gI, gR, sA_nI, gA_nI, at_nI, put_nI, ibs_nI, nI_add, nI_mulI, nI_subI, nI_neg1, nI_leI, nI_ltI, nI_eq, nI_ne_m1, nI_m1_ne, nI_nlt0, Option.bind_some, bnd_some, iteP, iteN, reduceIte, b1_def, or0, if_true, if_false, eq_self, Bool.false_eq_true, l_0, l_1, l_2, l_3, l_4, l_5, l_6, l_7, l_8, l_9, l_10, l_11, l_12, l_13, l_14, l_15, l_16, l_17, l_18, l_19, l_20, l_24, l_30, l_31, l_40, l_45, l_50, l_57, l_58, l_59, l_60, l_61, l_62, l_63, l_64, l_90, l_99, l_100, l_107, l_108, l_109, l_110, l_111, l_299, l_300, l_400, l_407, l_807, g3]
      exact Tr.some ⟨_, rfl, by rw [hP]⟩
  simp (disch := omega) only [a2, a83, a84, a85, a86, a88, a89, a92, a93, a96, p2, p83, p84, p85, p86, p88, p89, p92, p93, p96, a91, a94, a95, p91, p94, p95, gI, gR, sA_nI, gA_nI, at_nI, put_nI, ibs_nI, nI_add, nI_mulI, nI_subI, nI_neg1, nI_leI, nI_ltI, nI_eq, nI_ne_m1, nI_m1_ne, nI_nlt0, Option.bind_some, bnd_some, iteP, iteN, reduceIte, b1_def, or0, if_true, if_false, eq_self, Bool.false_eq_true, l_0, l_1, l_2, l_3, l_4, l_5, l_6, l_7, l_8, l_9, l_10, l_11, l_12, l_13, l_14, l_15, l_16, l_17, l_18, l_19, l_20, l_24, l_30, l_31, l_40, l_45, l_50, l_57, l_58, l_59, l_60, l_61, l_62, l_63, l_64, l_90, l_99, l_100, l_107, l_108, l_109, l_110, l_111, l_299, l_300, l_400, l_407, l_807, nI_neg1, key]
/-- one more led past, or away: whom each is had by, how many each thing has, the seed, how many were had -/
abbrev LdS : Type := (Nat → Option Nat) × (Nat → Nat) × Int32 × Nat
def nxs (s : Int32) : Int32 := s * 1103515245 + 12345
def drw (s : Int32) : Int32 := ((iush s 16) &&& 32767) - ((iush s 16) &&& 32767) / 100 * 100
def awy (nx dw : Int32 → Int32) (m : Nat → Int32) (dr : Bool) (v : Nat) (s : Int32) : Bool := dr && decide (¬ m (57 + 5 * v + 3) ≤ dw (nx s))
def pkL (m : Nat → Int32) (LK : (Nat → Int32) → Nat → Nat → Int32 → Int32) (v : Nat) (cn : Nat → Nat) : Option Nat := pkS m (fun t => lkv LK m t v) (fun t => decide (0 < rmN m t - cn t) && rgs m t (lkv LK m t v)) (tN m)
def ldP (m : Nat → Int32) (LK : (Nat → Int32) → Nat → Nat → Int32 → Int32) (v : Nat) (s : LdS) (sd : Int32) : LdS :=
  match pkL m LK v s.2.1 with
    | none => (s.1, s.2.1, sd, s.2.2.2)
    | some t => ((fun u => if u = v then some t else s.1 u), (fun u => if u = t then s.2.1 u + 1 else s.2.1 u), sd, s.2.2.2 + 1)
def ldN (nx dw : Int32 → Int32) (m : Nat → Int32) (LK : (Nat → Int32) → Nat → Nat → Int32 → Int32) (dr : Bool) (v : Nat) (s : LdS) : LdS :=
  if awy nx dw m dr v s.2.2.1 = true then (s.1, s.2.1, nx s.2.2.1, s.2.2.2) else ldP m LK v s (if dr then nx s.2.2.1 else s.2.2.1)
def ldS (nx dw : Int32 → Int32) (m : Nat → Int32) (LK : (Nat → Int32) → Nat → Nat → Int32 → Int32) (dr : Bool) (n : Nat) : LdS := iter (ldN nx dw m LK dr) n ((fun _ => none), (fun _ => 0), m 9, 0)
/-- a museum's row with another seed -/
def u9 (m : Nat → Int32) (s : Int32) : Nat → Int32 := fun k => if k = 9 then s else m k
end LEAD
