/-! the relation between the class's memory and the reference's -/
theorem lnM {q : Nat} (h : kd q = 4) : ln (q + 1) = 45 ∧ ln (q + 2) = 50 ∧ ln (q + 3) = 300 ∧ 4 ≤ q ∧ q ≤ 60 ∧ q % 4 = 0 := by
  have hq := kd_lt h (by decide)
  exact (show ∀ j, j < 126 → kd j = 4 → ln (j + 1) = 45 ∧ ln (j + 2) = 50 ∧ ln (j + 3) = 300 ∧ 4 ≤ j ∧ j ≤ 60 ∧ j % 4 = 0 by decide +kernel) q hq h
theorem lnL {q : Nat} (h : kd q = 2) : ln (q + 1) = 12 ∧ ln (q + 2) = 12 ∧ ln (q + 3) = 12 ∧ ln (q + 4) = 400 ∧ ln (q + 5) = 6 ∧ 64 ≤ q ∧ q ≤ 76 ∧ q % 6 = 4 := by
  have hq := kd_lt h (by decide)
  exact (show ∀ j, j < 126 → kd j = 2 → ln (j + 1) = 12 ∧ ln (j + 2) = 12 ∧ ln (j + 3) = 12 ∧ ln (j + 4) = 400 ∧ ln (j + 5) = 6 ∧ 64 ≤ j ∧ j ≤ 76 ∧ j % 6 = 4 by decide +kernel) q hq h
/-- things, visitors, had in all of a museum's row of numbers -/
def tN (m : Nat → Int32) : Nat := (m 3).toNatClampNeg
def vN (m : Nat → Int32) : Nat := (m 4).toNatClampNeg
def hN (m : Nat → Int32) : Nat := (m 7).toNatClampNeg
def LGR (lg m : Nat → Int32) : Prop := ∀ a c, a < min (hN m) 60 → c < 5 → lg ((hN m - 1 - a) % 60 * 5 + c) = m (107 + 5 * a + c)
def MR (M : Mm) (q : Nat) (m : Nat → Int32) : Prop := (∀ k, k < 45 → M.1 (q + 1) k = m (12 + k)) ∧ (∀ k, k < 50 → M.1 (q + 2) k = m (57 + k)) ∧ M.1 q 3 = m 3 ∧ M.1 q 4 = m 4 ∧ M.1 q 5 = m 0 ∧ M.1 q 6 = m 5 ∧ M.1 q 7 = m 6 ∧ M.1 q 8 = m 9 ∧ M.1 q 9 = m 7 ∧ LGR (M.1 (q + 3)) m
/-- what holds of a museum's numbers -/
def Inv (m : Nat → Int32) (B : Nat) : Prop := isN (m 3) 9 ∧ isN (m 4) 10 ∧ isN (m 0) 12 ∧ (isN (m 5) 9 ∧ 1 ≤ (m 5).toNatClampNeg) ∧ isN (m 7) B ∧ m 8 = nI (min (hN m) 60) ∧
  (∀ t, t < tN m → isN (m (12 + 5 * t + 0)) 19 ∧ (isN (m (12 + 5 * t + 2)) 3 ∧ 1 ≤ (m (12 + 5 * t + 2)).toNatClampNeg) ∧ isN (m (12 + 5 * t + 3)) 1 ∧ isN (m (12 + 5 * t + 1)) 99 ∧ isN (m (12 + 5 * t + 4)) 99) ∧
  (∀ v, v < vN m → isN (m (57 + 5 * v + 1)) 9 ∧ isN (m (57 + 5 * v + 4)) 63) ∧
  (∀ a, a < min (hN m) 60 → isN (m (107 + 5 * a + 1)) (vN m) ∧ (m (107 + 5 * a + 1)).toNatClampNeg < vN m)
/-- the two sides of the law's part of a museum's row -/
def eqL (m m2 : Nat → Int32) : Prop := m2 1 = m 1 ∧ m2 2 = m 2 ∧ ∀ k, 407 ≤ k → k < 807 → m2 k = m k
def FrR (M N : Mm) : Prop := Fr [109, 115] M N ∧ ∀ k, k = 0 ∨ k = 3 ∨ k = 6 ∨ k = 8 ∨ k = 12 → N.1 109 k = M.1 109 k
/-- what the other parts ask of the law: LR: the class's law at L is that of the row m; LK: LIKING -/
def LSpec (LR : Mm → Nat → (Nat → Int32) → Prop) (LK : (Nat → Int32) → Nat → Nat → Int32 → Int32) : Prop :=
  (∀ M N L m, LR M L m → (∀ i, L ≤ i → i < L + 5 → N.1 i = M.1 i) → LR N L m) ∧
  (∀ M L m m2, LR M L m → eqL m m2 → LR M L m2) ∧
  (∀ m m2 t v mk, eqL m m2 → m2 6 = m 6 → (∀ c, c < 3 → m2 (57 + 5 * v + c) = m (57 + 5 * v + c)) → m2 (12 + 5 * t + 0) = m (12 + 5 * t + 0) → m2 (12 + 5 * t + 4) = m (12 + 5 * t + 4) → LK m2 t v mk = LK m t v mk) ∧
  (∀ M q L m t v B, kd q = 4 → kd L = 2 → MR M q m → Inv m B → LR M L m → t < tN m → v < vN m → Tr (f_X2_weighs M L q (nI t) (nI v)) (fun r => r.1 = LK m t v (m (57 + 5 * v + 4)) ∧ Fr [L + 5] M r.2)) ∧
  (∀ Mr t v mk B Mc L, Inv (Mr.1 110) B → LR Mc L (Mr.1 110) → t < tN (Mr.1 110) → v < vN (Mr.1 110) → Tr (f_X10_likesOne Mr (nI t) (nI v) mk) (fun r => r.1 = LK (Mr.1 110) t v mk ∧ FrR Mr r.2)) ∧
  (∀ m t v mk B, Inv m B → v < vN m → isN (LK m t v mk) 1188) ∧
  (∀ M N L L2 m, LR M L m → (∀ j, 1 ≤ j → j < 5 → ∀ k, k < (if j = 4 then 400 else 12) → N.1 (L2 + j) k = M.1 (L + j) k) → N.1 L2 5 = M.1 L 5 → N.1 L2 6 = M.1 L 6 → LR N L2 m) ∧
  (∀ M L m, LR M L m → M.1 L 6 = m 1)
def inAh (M : Mm) (q : Nat) : Prop := ∃ j, j < 12 ∧ M.2.2 3 j = q
/-- the relation -/
def RR (LR : Mm → Nat → (Nat → Int32) → Prop) (n : Nat) (Mc Mr : Mm) : Prop :=
  (kd (Mc.2.2 1 3) = 4 ∧ kd (Mc.2.2 1 4) = 4 ∧ Mc.2.2 1 3 ≠ Mc.2.2 1 4 ∧ Mc.2.2 1 3 ≠ 60 ∧ Mc.2.2 1 4 ≠ 60 ∧ (∀ j, j < 12 → kd (Mc.2.2 3 j) = 4 ∧ Mc.2.2 3 j ≠ 60 ∧ Mc.2.2 3 j ≠ Mc.2.2 1 3 ∧ Mc.2.2 3 j ≠ Mc.2.2 1 4) ∧ (∀ j k, j < 12 → k < 12 → Mc.2.2 3 j = Mc.2.2 3 k → j = k)) ∧
  (kd (Mc.2.2 1 5) = 2 ∧ kd (Mc.2.2 1 6) = 2 ∧ Mc.2.2 1 5 ≠ Mc.2.2 1 6 ∧ Mc.2.2 1 5 ≠ 76 ∧ Mc.2.2 1 6 ≠ 76) ∧
  (MR Mc (Mc.2.2 1 3) (Mr.1 110) ∧ Inv (Mr.1 110) (500 * n) ∧ LR Mc (Mc.2.2 1 5) (Mr.1 110)) ∧
  (isN (Mr.1 109 8) 400 ∧ Mc.1 1 1 = Mr.1 109 8 ∧ ∀ k, k < (Mr.1 109 8).toNatClampNeg → Mc.1 2 k = Mr.1 114 k ∧ isN (Mr.1 114 k) 255) ∧
  (Mc.1 1 2 = Mr.1 109 12) ∧
  (isN (Mr.1 109 3) 1 ∧ Mc.1 1 9 = Mr.1 109 3 ∧ (Mr.1 109 3 = 1 → MR Mc 60 (Mr.1 111) ∧ Inv (Mr.1 111) (500 * n) ∧ LR Mc 76 (Mr.1 111))) ∧
  (isN (Mr.1 109 6) 12 ∧ Mc.1 1 11 = Mr.1 109 6 ∧ ∀ j, j < (Mr.1 109 6).toNatClampNeg → MR Mc (Mc.2.2 3 j) (fun k => Mr.1 113 (407 * j + k)) ∧ Inv (fun k => Mr.1 113 (407 * j + k)) (500 * n) ∧ Mr.1 113 (407 * j + 1) = Mr.1 110 1 ∧ Mr.1 113 (407 * j + 2) = Mr.1 110 2)
/-! the rows of numbers read -/
section RD
variable {M : Mm} {q B : Nat} {m : Nat → Int32}
theorem ofT (hk : kd q = 4) (h : MR M q m) {t c : Nat} (ht : t < 9) (hc : c < 5) : f_X4_ofThing M q (nI t) (nI c) = m (12 + 5 * t + c) := by
  obtain ⟨e1, e2, e3, e4⟩ := lnM hk
  unfold f_X4_ofThing
  rw [l_5, nI_mulI, nI_add, at_nI e1 (by omega), h.1 _ (by omega)]
  congr 1; omega
theorem ofV (hk : kd q = 4) (h : MR M q m) {t c : Nat} (ht : t < 10) (hc : c < 5) : f_X4_ofVisitor M q (nI t) (nI c) = m (57 + 5 * t + c) := by
  obtain ⟨e1, e2, e3, e4⟩ := lnM hk
  unfold f_X4_ofVisitor
  rw [l_5, nI_mulI, nI_add, at_nI e2 (by omega), h.2.1 _ (by omega)]
  congr 1; omega
theorem ofR {t c : Nat} (ht : t < 9) (hc : c < 5) : f_X10_of M (nI t) (nI c) = some (M.1 110 (12 + 5 * t + c)) := by
  unfold f_X10_of
  simp (disch := omega) only [gI, gR, sA_nI, gA_nI, at_nI, put_nI, ibs_nI, nI_add, nI_mulI, nI_subI, nI_neg1, nI_leI, nI_ltI, nI_eq, nI_ne_m1, nI_m1_ne, nI_nlt0, Option.bind_some, bnd_some, iteP, iteN, reduceIte, if_true, if_false, eq_self, Bool.false_eq_true, l_0, l_1, l_2, l_3, l_4, l_5, l_6, l_7, l_8, l_9, l_10, l_11, l_12, l_13, l_14, l_15, l_16, l_17, l_18, l_19, l_20, l_24, l_30, l_31, l_40, l_45, l_50, l_57, l_58, l_59, l_60, l_61, l_62, l_63, l_64, l_90, l_99, l_100, l_107, l_108, l_109, l_110, l_111, l_299, l_300, l_400, l_407, l_807]
theorem ofOneR {t c : Nat} (ht : t < 10) (hc : c < 5) : f_X10_ofOne M (nI t) (nI c) = some (M.1 110 (57 + 5 * t + c)) := by
  unfold f_X10_ofOne
  simp (disch := omega) only [gI, gR, sA_nI, gA_nI, at_nI, put_nI, ibs_nI, nI_add, nI_mulI, nI_subI, nI_neg1, nI_leI, nI_ltI, nI_eq, nI_ne_m1, nI_m1_ne, nI_nlt0, Option.bind_some, bnd_some, iteP, iteN, reduceIte, if_true, if_false, eq_self, Bool.false_eq_true, l_0, l_1, l_2, l_3, l_4, l_5, l_6, l_7, l_8, l_9, l_10, l_11, l_12, l_13, l_14, l_15, l_16, l_17, l_18, l_19, l_20, l_24, l_30, l_31, l_40, l_45, l_50, l_57, l_58, l_59, l_60, l_61, l_62, l_63, l_64, l_90, l_99, l_100, l_107, l_108, l_109, l_110, l_111, l_299, l_300, l_400, l_407, l_807]
theorem Inv.t (h : Inv m B) : m 3 = nI (tN m) ∧ tN m ≤ 9 := h.1
theorem Inv.v (h : Inv m B) : m 4 = nI (vN m) ∧ vN m ≤ 10 := h.2.1
theorem Inv.h (h : Inv m B) : m 7 = nI (hN m) ∧ hN m ≤ B := h.2.2.2.2.1
theorem Inv.sp (h : Inv m B) : ∃ k, m 5 = nI k ∧ 1 ≤ k ∧ k ≤ 9 := ⟨_, h.2.2.2.1.1.1, h.2.2.2.1.2, h.2.2.2.1.1.2⟩
theorem Inv.mono {B2 : Nat} (h : Inv m B) (hB : B ≤ B2) : Inv m B2 := ⟨h.1, h.2.1, h.2.2.1, h.2.2.2.1, ⟨h.2.2.2.2.1.1, Nat.le_trans h.2.2.2.2.1.2 hB⟩, h.2.2.2.2.2⟩
end RD
