/-! bits counted; change -/
section CHANGE
variable {LR : Mm → Nat → (Nat → Int32) → Prop} {LK : (Nat → Int32) → Nat → Nat → Int32 → Int32} {n : Nat} {M N K Mc Mr Nc Nr : Mm} {q L B v t a b : Nat} {m m0 : Nat → Int32} {x y x1 x2 x3 x4 x5 : Int32} {dr : Bool}
theorem and1 (y : Int32) : y &&& nI 1 = nI (y.toUInt32.toNat % 2) := by
  have h := i_nI y
  rw [← Nat.and_one_is_mod, ← nx_and, ← h]
theorem bt_val {v : Nat} (hv : v < 32) : (x >>> (nI v &&& nI 31)) &&& nI 1 = if bt x v = true then nI 1 else nI 0 := by
  have h1 := bt_tst (x := x) hv
  by_cases h : bt x v = true
  · rw [if_pos h]
    exact h1.mpr h
  · rw [if_neg h]
    have h2 : ¬ ((x >>> (nI v &&& nI 31)) &&& nI 1 = nI 1) := fun e => h (h1.mp e)
    have h3 := and1 (x >>> (nI v &&& nI 31))
    rw [h3] at h2 ⊢
    generalize (x >>> (nI v &&& nI 31)).toUInt32.toNat = z at h2 ⊢
    have h4 : z % 2 = 0 ∨ z % 2 = 1 := by omega
    rcases h4 with h4 | h4
    · rw [h4]
    · rw [h4] at h2; exact absurd rfl h2
theorem bitsR : f_X10_bits M x = some (nI (cntB (fun k => bt x k) 31)) := by
  unfold f_X10_bits
  have : loop FU (fun a_2 => f_X10_bits_L4 M x a_2.1 a_2.2) (0, 0) = some (nI (cntB (fun k => bt x k) 31)) := by
    refine lpI (fun k (s : Nat) => (nI s, nI k)) 31 (fun k s => if bt x k = true then s + 1 else s) nI (by omega) 0 rfl (fun k s hk => ?_) (fun s => ?_)
    · show f_X10_bits_L4 M x (nI s) (nI k) = _
      unfold f_X10_bits_L4
      rw [if_neg (show ¬ (31 : Int32) ≤ nI k by rw [l_31, nI_leI (by omega) (by omega)]; omega), show (x >>> (nI k &&& 31)) &&& 1 = _ from bt_val (by omega), Option.bind_some, show nI k + 1 = nI (k + 1) from by rw [l_1, nI_add]]
      by_cases h : bt x k = true
      · rw [if_pos h, if_pos h, nI_add]
      · rw [if_neg h, if_neg h, nI_add, Nat.add_zero]
    · show f_X10_bits_L4 M x (nI s) (nI 31) = _
      unfold f_X10_bits_L4
      rw [if_pos (by decide)]
  rw [this]; rfl
theorem cntB_lt {p : Nat → Bool} {n : Nat} : ∀ k, n ≤ k → cntB (fun i => decide (i < n) && p i) k = cntB p n := by
  intro k
  induction k with
  | zero => intro h; rw [show n = 0 by omega]; rfl
  | succ k ih =>
    intro h
    by_cases e : n = k + 1
    · subst e
      exact cntB_cg (fun v hv => by simp [hv])
    · rw [cntB_succ, ih (by omega)]
      have : ¬ k < n := by omega
      simp [this]
theorem bits_set {p : Nat → Bool} (hn : n ≤ 31) : f_X10_bits M (bset p n) = some (nI (cntB p n)) := by
  rw [bitsR, ← cntB_lt (p := p) (n := n) 31 hn]
  congr 2
  exact cntB_cg (fun i hi => bt_bset (by omega) (by omega))
/-- two things' cells changed -/
def sw (m : Nat → Int32) (a b : Nat) : Nat → Int32 := uk (uk m (12 + 5 * a + 0) (m (12 + 5 * b + 0))) (12 + 5 * b + 0) (m (12 + 5 * a + 0))
theorem sw_lo {k : Nat} (h1 : k ≠ 12 + 5 * a + 0) (h2 : k ≠ 12 + 5 * b + 0) : sw m a b k = m k := by
  unfold sw
  rw [uk_ne h2, uk_ne h1]
theorem sw_sw (h : a ≠ b) : sw (sw m a b) a b = m := by
  have e1 : sw m a b (12 + 5 * a + 0) = m (12 + 5 * b + 0) := by
    unfold sw
    rw [uk_ne (by omega), uk_eq]
  have e2 : sw m a b (12 + 5 * b + 0) = m (12 + 5 * a + 0) := by
    unfold sw
    rw [uk_eq]
  funext k
  by_cases h1 : k = 12 + 5 * b + 0
  · subst h1
    show uk (uk (sw m a b) _ _) _ _ _ = _
    rw [uk_eq, e1]
  · by_cases h2 : k = 12 + 5 * a + 0
    · subst h2
      show uk (uk (sw m a b) _ _) _ _ _ = _
      rw [uk_ne h1, uk_eq, e2]
    · rw [sw_lo h2 h1, sw_lo h2 h1]
theorem sw_n : tN (sw m a b) = tN m ∧ vN (sw m a b) = vN m := by
  unfold tN vN
  rw [sw_lo (by omega) (by omega), sw_lo (by omega) (by omega)]
  exact ⟨rfl, rfl⟩
theorem sw_inv (hI : Inv m B) (ha : a < tN m) (hb : b < tN m) : Inv (sw m a b) B := by
  have hT := hI.t
  have h1 := (hI.2.2.2.2.2.2.1 a ha).1
  have h2 := (hI.2.2.2.2.2.2.1 b hb).1
  exact (hI.ukT (c := 0) (by omega) (by decide) (Or.inl ⟨rfl, h2⟩)).ukT (c := 0) (by omega) (by decide) (Or.inl ⟨rfl, h1⟩)
theorem sw_L (ha : a < 9) (hb : b < 9) : eqL m (sw m a b) := ⟨sw_lo (by omega) (by omega), sw_lo (by omega) (by omega), fun k h1 h2 => sw_lo (by omega) (by omega)⟩
theorem swC (hk : kd q = 4) (h : MR M q m) (ha : a < 9) (hb : b < 9) : Tr (f_X4_swapCells M q (nI a) (nI b)) (fun N => MR N q (sw m a b) ∧ Fr [q + 1] M N) := by
  have e : f_X4_swapCells M q (nI a) (nI b) = some (sI (sI M (q + 1) (a * 5 + 0) (m (12 + 5 * b + 0))) (q + 1) (b * 5 + 0) (m (12 + 5 * a + 0))) := by
    unfold f_X4_swapCells
    rw [show f_X4_ofThing M q (nI b) 0 = _ from ofT (c := 0) hk h hb (by decide), show f_X4_ofThing M q (nI a) 0 = _ from ofT (c := 0) hk h ha (by decide), show f_X4_setThing M q (nI a) 0 _ = _ from setThingC (c := 0) hk ha (by decide), Option.bind_some, show f_X4_setThing _ q (nI b) 0 _ = _ from setThingC (c := 0) hk hb (by decide), Option.bind_some]
  refine ⟨_, e, ?_, (Fr.sI (by simp)).tr (Fr.sI (by simp))⟩
  unfold sw
  rw [show 12 + 5 * a + 0 = 12 + (a * 5 + 0) by omega, show 12 + 5 * b + 0 = 12 + (b * 5 + 0) by omega]
  exact (h.ukT hk (by omega)).ukT hk (by omega)
theorem swR (hm : M.1 110 = m) (ha : a < 9) (hb : b < 9) : Tr (f_X10_swap M (nI a) (nI b)) (fun N => N.1 110 = sw m a b ∧ Fr [110] M N) := by
  have e : f_X10_swap M (nI a) (nI b) = some (sI (sI M 110 (12 + 5 * a + 0) (m (12 + 5 * b + 0))) 110 (12 + 5 * b + 0) (m (12 + 5 * a + 0))) := by
    unfold f_X10_swap
    rw [show f_X10_of M (nI a) 0 = _ from ofR (c := 0) ha (by decide), show f_X10_of M (nI b) 0 = _ from ofR (c := 0) hb (by decide), Option.bind_some, Option.bind_some, show (12 : Int32) + 5 * nI a + 0 = nI (12 + 5 * a + 0) from ix5 (b := 12) (c := 0), show (12 : Int32) + 5 * nI b + 0 = nI (12 + 5 * b + 0) from ix5 (b := 12) (c := 0), if_pos (ib807 (by omega)), sA110 (by omega), Option.bind_some, if_pos (ib807 (by omega)), sA110 (by omega), Option.bind_some, hm]
  refine ⟨_, e, ?_, (Fr.sI (by simp)).tr (Fr.sI (by simp))⟩
  rw [uk_110, uk_110, hm]
  rfl
/-- the best of all changes -/
def chI (LK : (Nat → Int32) → Nat → Nat → Int32 → Int32) (m : Nat → Int32) (a b : Nat) (s : Nat × Int32) : Nat × Int32 := if (S0 LK (sw m a b)).2.2.2 ≤ s.1 then s else ((S0 LK (sw m a b)).2.2.2, nI (10 * a + b))
def chJ (LK : (Nat → Int32) → Nat → Nat → Int32 → Int32) (m : Nat → Int32) (a : Nat) (j : Nat) (s : Nat × Int32) : Nat × Int32 := iter (fun j s => chI LK m a (a + 1 + j) s) j s
def chK (LK : (Nat → Int32) → Nat → Nat → Int32 → Int32) (m : Nat → Int32) (i : Nat) : Nat × Int32 := iter (fun a s => chJ LK m a (tN m - (a + 1)) s) i ((S0 LK m).2.2.2, -1)
theorem chJ_succ {j : Nat} {s : Nat × Int32} : chJ LK m a (j + 1) s = chI LK m a (a + 1 + j) (chJ LK m a j s) := rfl
theorem chI_le {s : Nat × Int32} (hV : vN m ≤ 10) (h : s.1 ≤ 10) : (chI LK m a b s).1 ≤ 10 := by
  unfold chI
  by_cases h1 : (S0 LK (sw m a b)).2.2.2 ≤ s.1
  · rw [if_pos h1]; exact h
  · rw [if_neg h1]
    have := (S0_inv (LK := LK) (m := sw m a b)).2.2
    rw [sw_n.2] at this
    show (S0 LK (sw m a b)).2.2.2 ≤ 10
    omega
theorem chJ_le {s : Nat × Int32} (hV : vN m ≤ 10) (h : s.1 ≤ 10) : ∀ j, (chJ LK m a j s).1 ≤ 10 := by
  intro j
  induction j with
  | zero => exact h
  | succ j ih => rw [chJ_succ]; exact chI_le hV ih
theorem chK_succ {i : Nat} : chK LK m (i + 1) = chJ LK m i (tN m - (i + 1)) (chK LK m i) := rfl
theorem chK_le (hV : vN m ≤ 10) : ∀ i, (chK LK m i).1 ≤ 10 := by
  intro i
  induction i with
  | zero =>
    have := (S0_inv (LK := LK) (m := m)).2.2
    show (S0 LK m).2.2.2 ≤ 10
    omega
  | succ i ih => rw [chK_succ]; exact chJ_le hV ih _
def ChC (LR : Mm → Nat → (Nat → Int32) → Prop) (q3 q L : Nat) (m : Nat → Int32) (M N : Mm) : Prop := MR N q m ∧ Fr [q, q + 1, q + 2, q + 3, L + 5, 83, 84, 85, 86] M N
theorem changeC (HL : LSpec LR LK) (h : RR LR n Mc Mr) (h0 : ChC LR (Mc.2.2 1 3) (Mc.2.2 1 4) (Mc.2.2 1 5) (Mr.1 110) Mc M) (y : Int32) : Tr (loop FU (fun a_17 => f_X9_change_L25 a_17.1 y a_17.2.1 a_17.2.2.1 a_17.2.2.2) (M, nI (S0 LK (Mr.1 110)).2.2.2, (-1), 0)) (fun r => r.2 = (nI (chK LK (Mr.1 110) (tN (Mr.1 110))).1, (chK LK (Mr.1 110) (tN (Mr.1 110))).2) ∧ ChC LR (Mc.2.2 1 3) (Mc.2.2 1 4) (Mc.2.2 1 5) (Mr.1 110) Mc r.1) := by
  obtain ⟨hk, hkL, hM, hI, hR⟩ := h.cur
  have k2 := h.1.2.1
  have k3 := h.1.2.2.1
  have m1 := md4 hk
  have m2 := md4 k2
  have l1 := (lnL hkL).2.2.2.2.2
  obtain ⟨e3, hT⟩ := hI.t
  have hV := hI.v
  have g : ∀ N, Fr [Mc.2.2 1 4, Mc.2.2 1 4 + 1, Mc.2.2 1 4 + 2, Mc.2.2 1 4 + 3, Mc.2.2 1 5 + 5, 83, 84, 85, 86] Mc N → gR N 1 3 = Mc.2.2 1 3 ∧ gR N 1 4 = Mc.2.2 1 4 ∧ N.2.2 1 5 = Mc.2.2 1 5 ∧ gI N (Mc.2.2 1 3) 3 = nI (tN (Mr.1 110)) ∧ LR N (Mc.2.2 1 5) (Mr.1 110) := fun N hF => by
    have e : N.2.2 1 = Mc.2.2 1 := (hF 1 (by simp; omega)).2.2
    refine ⟨by show N.2.2 1 3 = _; rw [e], by show N.2.2 1 4 = _; rw [e], by rw [e], ?_, HL.1 _ _ _ _ hR (fun j a b => (hF j (by simp; omega)).1)⟩
    show N.1 (Mc.2.2 1 3) 3 = _
    rw [(hF (Mc.2.2 1 3) (by simp; omega)).1]
    exact hM.2.2.1.trans e3
  refine lp0 (fun i (N : Mm) => (N, nI (chK LK (Mr.1 110) i).1, (chK LK (Mr.1 110) i).2, nI i)) (tN (Mr.1 110)) (fun i N => ChC LR (Mc.2.2 1 3) (Mc.2.2 1 4) (Mc.2.2 1 5) (Mr.1 110) Mc N) (by omega) M rfl h0 (fun a N ha hP => ?_) (fun N hP => ?_)
  · show Tr (f_X9_change_L25 N y (nI (chK LK (Mr.1 110) a).1) (chK LK (Mr.1 110) a).2 (nI a)) _
    obtain ⟨g3, g4, g5, gT, gL⟩ := g N hP.2
    unfold f_X9_change_L25
    rw [Option.bind_some, g3, if_pos hk, gT, if_neg (by rw [nI_leI (by omega) (by omega)]; omega), show nI a + 1 = nI (a + 1) from by rw [l_1, nI_add]]
    have hin : Tr (loop FU (fun a_16 => f_X9_change_L43 a_16.1 y a_16.2.1 a_16.2.2.1 (nI a) a_16.2.2.2) (N, nI (chK LK (Mr.1 110) a).1, (chK LK (Mr.1 110) a).2, nI (a + 1))) (fun r => r.2 = (nI (chK LK (Mr.1 110) (a + 1)).1, (chK LK (Mr.1 110) (a + 1)).2) ∧ ChC LR (Mc.2.2 1 3) (Mc.2.2 1 4) (Mc.2.2 1 5) (Mr.1 110) Mc r.1) := by
      refine lp0 (fun j (N : Mm) => (N, nI (chJ LK (Mr.1 110) a j (chK LK (Mr.1 110) a)).1, (chJ LK (Mr.1 110) a j (chK LK (Mr.1 110) a)).2, nI (a + 1 + j))) (tN (Mr.1 110) - (a + 1)) (fun j N => ChC LR (Mc.2.2 1 3) (Mc.2.2 1 4) (Mc.2.2 1 5) (Mr.1 110) Mc N) (by omega) N rfl hP (fun j N hj hP => ?_) (fun N hP => ?_)
      · have hle := chJ_le (LK := LK) (a := a) hV.2 (chK_le (LK := LK) hV.2 a) j
        generalize hs : chJ LK (Mr.1 110) a j (chK LK (Mr.1 110) a) = s at hle
        have hs2 : chJ LK (Mr.1 110) a (j + 1) (chK LK (Mr.1 110) a) = chI LK (Mr.1 110) a (a + 1 + j) s := by rw [chJ_succ, hs]
        rw [hs2]
        show Tr (f_X9_change_L43 N y (nI s.1) s.2 (nI a) (nI (a + 1 + j))) _
        obtain ⟨g3, g4, g5, gT, gL⟩ := g N hP.2
        have hb : a + 1 + j < tN (Mr.1 110) := by omega
        generalize hbb : a + 1 + j = b at hb
        have hab : a ≠ b := by omega
        obtain ⟨N1, u1, u2, u3⟩ := swC k2 hP.1 (a := a) (b := b) (by omega) (by omega)
        have F1 : Fr [Mc.2.2 1 4, Mc.2.2 1 4 + 1, Mc.2.2 1 4 + 2, Mc.2.2 1 4 + 3, Mc.2.2 1 5 + 5, 83, 84, 85, 86] Mc N1 := hP.2.tr (u3.mono (by simp))
        obtain ⟨g13, g14, g15, g1T, g1L⟩ := g N1 F1
        obtain ⟨r, w1, w2, w3, w4⟩ := tomC HL k2 hkL g15 u2 (sw_inv hI ha hb) (HL.2.1 _ _ _ _ g1L (sw_L (by omega) (by omega)))
        have F2 : Fr [Mc.2.2 1 4, Mc.2.2 1 4 + 1, Mc.2.2 1 4 + 2, Mc.2.2 1 4 + 3, Mc.2.2 1 5 + 5, 83, 84, 85, 86] Mc r.2 := F1.tr (w3.mono (by simp))
        obtain ⟨g23, g24, g25, g2T, g2L⟩ := g r.2 F2
        have hMr : MR r.2 (Mc.2.2 1 4) (sw (Mr.1 110) a b) := u2.fr (fun i h1 h2 => (w3 i (by simp; omega)).1)
        obtain ⟨N3, z1, z2, z3⟩ := swC k2 hMr (a := a) (b := b) (by omega) (by omega)
        rw [sw_sw hab] at z2
        have F3 := F2.tr (z3.mono (S2 := [Mc.2.2 1 4, Mc.2.2 1 4 + 1, Mc.2.2 1 4 + 2, Mc.2.2 1 4 + 3, Mc.2.2 1 5 + 5, 83, 84, 85, 86]) (by simp))
        have hc10 := (S0_inv (LK := LK) (m := sw (Mr.1 110) a b)).2.2
        rw [sw_n.2] at hc10
        unfold f_X9_change_L43
        rw [Option.bind_some, g3, if_pos hk, gT, if_neg (by rw [nI_leI (by omega) (by omega)]; omega), Option.bind_some, g4, if_pos k2, u1, Option.bind_some, Option.bind_some, g14, if_pos k2, w1, Option.bind_some, Option.bind_some, g24, if_pos k2, z1, Option.bind_some, w2, show nI b + 1 = nI (b + 1) from by rw [l_1, nI_add], show (10 : Int32) * nI a + nI b = nI (10 * a + b) from by rw [l_10, nI_mulI, nI_add]]
        unfold chI
        by_cases hc : (S0 LK (sw (Mr.1 110) a b)).2.2.2 ≤ s.1
        · rw [if_pos (by rw [nI_leI (by omega) (by omega)]; exact hc)]
          exact Tr.some (Or.inl ⟨N3, by rw [if_pos hc, show a + 1 + (j + 1) = b + 1 by omega], z2, F3⟩)
        · rw [if_neg (by rw [nI_leI (by omega) (by omega)]; exact hc)]
          exact Tr.some (Or.inl ⟨N3, by rw [if_neg hc, show a + 1 + (j + 1) = b + 1 by omega], z2, F3⟩)
      · show Tr (f_X9_change_L43 N y (nI (chJ LK (Mr.1 110) a (tN (Mr.1 110) - (a + 1)) (chK LK (Mr.1 110) a)).1) (chJ LK (Mr.1 110) a (tN (Mr.1 110) - (a + 1)) (chK LK (Mr.1 110) a)).2 (nI a) (nI (a + 1 + (tN (Mr.1 110) - (a + 1))))) _
        obtain ⟨g3, g4, g5, gT, gL⟩ := g N hP.2
        unfold f_X9_change_L43
        rw [Option.bind_some, g3, if_pos hk, gT, if_pos (by rw [nI_leI (by omega) (by omega)]; omega)]
        exact Tr.some ⟨_, rfl, rfl, hP⟩
    refine Tr.bind hin (fun r hr => ?_)
    exact Tr.some (Or.inl ⟨r.1, by rw [hr.1], hr.2⟩)
  · show Tr (f_X9_change_L25 N y (nI (chK LK (Mr.1 110) (tN (Mr.1 110))).1) (chK LK (Mr.1 110) (tN (Mr.1 110))).2 (nI (tN (Mr.1 110)))) _
    obtain ⟨g3, g4, g5, gT, gL⟩ := g N hP.2
    unfold f_X9_change_L25
    rw [Option.bind_some, g3, if_pos hk, gT, if_pos (by rw [nI_leI (by omega) (by omega)]; omega)]
    exact Tr.some ⟨_, rfl, rfl, hP⟩
theorem changeR (HL : LSpec LR LK) (hI : Inv m B) (hR : LR Mc L m) (h0 : M.1 110 = m) (y : Int32) : Tr (loop FU (fun a_11 => f_X10_change_L22 a_11.1 y a_11.2.1 a_11.2.2.1 a_11.2.2.2) (M, nI (S0 LK m).2.2.2, (-1), 0)) (fun r => r.2 = (nI (chK LK m (tN m)).1, (chK LK m (tN m)).2) ∧ r.1.1 110 = m ∧ FrQ [109, 110, 115, 116, 117, 118, 119] M r.1) := by
  obtain ⟨e3, hT⟩ := hI.t
  have hV := hI.v
  have i3 : ibs (3 : Int32) 807 = true := by decide
  refine lp0 (fun i (N : Mm) => (N, nI (chK LK m i).1, (chK LK m i).2, nI i)) (tN m) (fun i N => N.1 110 = m ∧ FrQ [109, 110, 115, 116, 117, 118, 119] M N) (by omega) M rfl ⟨h0, FrQ.rf⟩ (fun a N ha hP => ?_) (fun N hP => ?_)
  · show Tr (f_X10_change_L22 N y (nI (chK LK m a).1) (chK LK m a).2 (nI a)) _
    have gT : gA N 110 3 = nI (tN m) := by show N.1 110 3 = _; rw [hP.1]; exact e3
    unfold f_X10_change_L22
    rw [if_pos i3, gT, if_neg (by rw [nI_leI (by omega) (by omega)]; omega), show nI a + 1 = nI (a + 1) from by rw [l_1, nI_add]]
    have hin : Tr (loop FU (fun a_10 => f_X10_change_L39 a_10.1 y a_10.2.1 a_10.2.2.1 (nI a) a_10.2.2.2) (N, nI (chK LK m a).1, (chK LK m a).2, nI (a + 1))) (fun r => r.2 = (nI (chK LK m (a + 1)).1, (chK LK m (a + 1)).2) ∧ r.1.1 110 = m ∧ FrQ [109, 110, 115, 116, 117, 118, 119] M r.1) := by
      refine lp0 (fun j (N : Mm) => (N, nI (chJ LK m a j (chK LK m a)).1, (chJ LK m a j (chK LK m a)).2, nI (a + 1 + j))) (tN m - (a + 1)) (fun j N => N.1 110 = m ∧ FrQ [109, 110, 115, 116, 117, 118, 119] M N) (by omega) N rfl hP (fun j N hj hP => ?_) (fun N hP => ?_)
      · have hle := chJ_le (LK := LK) (a := a) hV.2 (chK_le (LK := LK) hV.2 a) j
        generalize hs : chJ LK m a j (chK LK m a) = s at hle
        have hs2 : chJ LK m a (j + 1) (chK LK m a) = chI LK m a (a + 1 + j) s := by rw [chJ_succ, hs]
        rw [hs2]
        show Tr (f_X10_change_L39 N y (nI s.1) s.2 (nI a) (nI (a + 1 + j))) _
        have gT : gA N 110 3 = nI (tN m) := by show N.1 110 3 = _; rw [hP.1]; exact e3
        have hb : a + 1 + j < tN m := by omega
        generalize hbb : a + 1 + j = b at hb
        have hab : a ≠ b := by omega
        obtain ⟨N1, u1, u2, u3⟩ := swR hP.1 (a := a) (b := b) (by omega) (by omega)
        obtain ⟨N2, w1, w2, w3, w4⟩ := tomR HL u2 (sw_inv hI ha hb) (HL.2.1 _ _ _ _ hR (sw_L (by omega) (by omega)))
        obtain ⟨N3, z1, z2, z3⟩ := swR w3 (a := a) (b := b) (by omega) (by omega)
        rw [sw_sw hab] at z2
        have F3 : FrQ [109, 110, 115, 116, 117, 118, 119] M N3 := ((hP.2.tr (FrQ.of u3 (by simp) |>.mono (by simp))).tr w2).tr (FrQ.of z3 (by simp) |>.mono (by simp))
        have hmore := (S0_more (LK := LK) (m := sw m a b)).2
        have hinv := S0_inv (LK := LK) (m := sw m a b)
        have hbS := S0_b (LK := LK) (sw_inv hI ha hb)
        rw [sw_n.2] at hmore hinv
        have hN3 := hadNowR (f := (S0 LK (sw m a b)).1) z2 hI (fun v hv => by rw [(z3 117 (by simp)).1]; exact w4.2.1 v hv) hbS
        unfold f_X10_change_L39
        rw [if_pos i3, gT, if_neg (by rw [nI_leI (by omega) (by omega)]; omega), u1, Option.bind_some, w1, Option.bind_some, z1, Option.bind_some, hN3, Option.bind_some, bits_set (by omega), Option.bind_some, ← hmore, show nI b + 1 = nI (b + 1) from by rw [l_1, nI_add], show (10 : Int32) * nI a + nI b = nI (10 * a + b) from by rw [l_10, nI_mulI, nI_add]]
        have hc10 := hinv.2.2
        unfold chI
        by_cases hc : (S0 LK (sw m a b)).2.2.2 ≤ s.1
        · rw [if_neg (by rw [nI_ltI (by omega) (by omega)]; omega)]
          exact Tr.some (Or.inl ⟨N3, by rw [if_pos hc, show a + 1 + (j + 1) = b + 1 by omega], z2, F3⟩)
        · rw [if_pos (by rw [nI_ltI (by omega) (by omega)]; omega)]
          exact Tr.some (Or.inl ⟨N3, by rw [if_neg hc, show a + 1 + (j + 1) = b + 1 by omega], z2, F3⟩)
      · show Tr (f_X10_change_L39 N y (nI (chJ LK m a (tN m - (a + 1)) (chK LK m a)).1) (chJ LK m a (tN m - (a + 1)) (chK LK m a)).2 (nI a) (nI (a + 1 + (tN m - (a + 1))))) _
        have gT : gA N 110 3 = nI (tN m) := by show N.1 110 3 = _; rw [hP.1]; exact e3
        unfold f_X10_change_L39
        rw [if_pos i3, gT, if_pos (by rw [nI_leI (by omega) (by omega)]; omega)]
        exact Tr.some ⟨_, rfl, rfl, hP⟩
    refine Tr.bind hin (fun r hr => ?_)
    exact Tr.some (Or.inl ⟨r.1, by rw [hr.1], hr.2⟩)
  · show Tr (f_X10_change_L22 N y (nI (chK LK m (tN m)).1) (chK LK m (tN m)).2 (nI (tN m))) _
    have gT : gA N 110 3 = nI (tN m) := by show N.1 110 3 = _; rw [hP.1]; exact e3
    unfold f_X10_change_L22
    rw [if_pos i3, gT, if_pos (by rw [nI_leI (by omega) (by omega)]; omega)]
    exact Tr.some ⟨_, rfl, rfl, hP⟩
theorem s_20 (HL : LSpec LR LK) (h : RR LR n Mc Mr) : ∃ Nc Nr, so_20 x1 x2 x3 x4 x5 Mc Mr Nc Nr ∧ RR LR (n + 1) Nc Nr := by
  obtain ⟨hk, hkL, hM, hI, hR⟩ := h.cur
  have k2 := h.1.2.1
  have k3 := h.1.2.2.1
  have m1 := md4 hk
  have m2 := md4 k2
  have l1 := (lnL hkL).2.2.2.2.2
  have hV := hI.v
  obtain ⟨r, c1, c2, c3, c4⟩ := tomC HL hk hkL rfl hM hI hR
  obtain ⟨N, d1, d2, d3, d4, d5⟩ := qdayR HL h 0
  have eR : r.2.2.2 1 = Mc.2.2 1 := (c3 1 (by simp <;> omega)).2.2
  have hMr : MR r.2 (Mc.2.2 1 3) (Mr.1 110) := hM.fr (fun i h1 h2 => (c3 i (by simp; omega)).1)
  obtain ⟨N1, p1, p2, p3⟩ := copyC k2 hk (fun e => k3 e.symm) hMr
  obtain ⟨w, w1, w2, w3, w4⟩ := changeC HL h (M := N1) ⟨p2, (c3.mono (by simp)).tr (p3.mono (by simp))⟩ (nb x1)
  obtain ⟨g, g1, g2, g3, g4⟩ := changeR HL hI hR d4 (nb x1)
  have hmore := (S0_more (LK := LK) (m := Mr.1 110)).2
  refine ⟨w.1, g.1, ⟨if nb x1 = 0 then (chK LK (Mr.1 110) (tN (Mr.1 110))).2 else nI (chK LK (Mr.1 110) (tN (Mr.1 110))).1, ?_, ?_⟩, RR_dr HL h w4 (d2.tr (KpR.of2 g4 (g3.trans d4.symm) (by simp) (by simp) (by simp)))⟩
  · unfold f_X9_change
    rw [Option.bind_some, show gR Mc 1 3 = Mc.2.2 1 3 from rfl, if_pos hk, c1, Option.bind_some, Option.bind_some, show gR r.2 1 4 = Mc.2.2 1 4 from by show r.2.2.2 1 4 = _; rw [eR], if_pos k2, Option.bind_some, show gR r.2 1 3 = Mc.2.2 1 3 from by show r.2.2.2 1 3 = _; rw [eR], if_pos hk, p1, Option.bind_some, c2, w1, Option.bind_some, w2]
    by_cases c : nb x1 = 0
    · rw [if_pos c, if_pos c]
    · rw [if_neg c, if_neg c]
  · unfold f_X10_change
    rw [Option.bind_some, d1, Option.bind_some, hadNowR d4 hI d5.2.1 (S0_b hI), Option.bind_some, bits_set (by omega), Option.bind_some, ← hmore, g1, Option.bind_some, g2]
    by_cases c : nb x1 = 0
    · rw [if_pos c, if_pos c]
    · rw [if_neg c, if_neg c]
end CHANGE
