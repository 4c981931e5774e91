/-! span -/
section SPAN
variable {LR : Mm → Nat → (Nat → Int32) → Prop} {LK : (Nat → Int32) → Nat → Nat → Int32 → Int32} {n : Nat} {M N K Mc Mr Nc Nr : Mm} {q L B v t : Nat} {m m0 : Nat → Int32} {x x1 x2 x3 x4 x5 : Int32} {dr : Bool}
def spL (c : Nat → Nat) (i : Nat) : Nat := iter (fun j s => min s (c j)) i 300
def spH (c : Nat → Nat) (i : Nat) : Nat := iter (fun j s => max s (c j)) i 0
theorem spL_succ {c : Nat → Nat} {i : Nat} : spL c (i + 1) = min (spL c i) (c i) := rfl
theorem spH_succ {c : Nat → Nat} {i : Nat} : spH c (i + 1) = max (spH c i) (c i) := rfl
theorem sp_ok {c : Nat → Nat} (hc : ∀ j, c j ≤ 300) : ∀ i, spL c i ≤ 300 ∧ spH c i ≤ 300 := by
  intro i
  induction i with
  | zero => exact ⟨Nat.le_refl _, Nat.zero_le _⟩
  | succ i ih =>
    rw [spL_succ, spH_succ]
    have := hc i
    omega
theorem mn_nI {a b : Nat} (ha : a < 2 ^ 31) (hb : b < 2 ^ 31) : mn (nI a) (nI b) = nI (min a b) := by
  unfold mn
  by_cases h : b < a
  · rw [if_pos (by rw [nI_ltI hb ha]; exact h), Nat.min_eq_right (by omega)]
  · rw [if_neg (by rw [nI_ltI hb ha]; exact h), Nat.min_eq_left (by omega)]
theorem mx_nI {a b : Nat} (ha : a < 2 ^ 31) (hb : b < 2 ^ 31) : mx (nI a) (nI b) = nI (max a b) := by
  unfold mx
  by_cases h : a < b
  · rw [if_pos (by rw [nI_ltI ha hb]; exact h), Nat.max_eq_right (by omega)]
  · rw [if_neg (by rw [nI_ltI ha hb]; exact h), Nat.max_eq_left (by omega)]
theorem les_nI {a b : Nat} (ha : a < 2 ^ 31) (hb : b < 2 ^ 31) : f_X10_lesser M (nI a) (nI b) = nI (min a b) := by
  unfold f_X10_lesser
  by_cases h : b ≤ a
  · rw [if_pos (by rw [nI_leI hb ha]; exact h), Nat.min_eq_right (by omega)]
  · rw [if_neg (by rw [nI_leI hb ha]; exact h), Nat.min_eq_left (by omega)]
theorem grt_nI {a b : Nat} (ha : a < 2 ^ 31) (hb : b < 2 ^ 31) : f_X10_greater M (nI a) (nI b) = nI (max a b) := by
  unfold f_X10_greater
  by_cases h : a ≤ b
  · rw [if_pos (by rw [nI_leI ha hb]; exact h), Nat.max_eq_right (by omega)]
  · rw [if_neg (by rw [nI_leI ha hb]; exact h), Nat.max_eq_left (by omega)]
def spC (LK : (Nat → Int32) → Nat → Nat → Int32 → Int32) (m : Nat → Int32) (k j : Nat) : Nat := dcN LK true (u9 m (nI (j + 1))) k
theorem spanC (HL : LSpec LR LK) (hn : n < 512) (h : RR LR n Mc Mr) {k : Nat} (hk30 : k ≤ 30) (y : Int32) : Tr (loop FU (fun a_10 => f_X9_span_L14 a_10.1 (nI k) y a_10.2.1 a_10.2.2.1 a_10.2.2.2) (Mc, 300, 0, 1)) (fun r => r.2 = (nI (spL (spC LK (Mr.1 110) k) 6), nI (spH (spC LK (Mr.1 110) k) 6)) ∧ Fr [Mc.2.2 1 4, Mc.2.2 1 4 + 1, Mc.2.2 1 4 + 2, Mc.2.2 1 4 + 3, Mc.2.2 1 5 + 5, 83, 84, 85, 86] Mc r.1) := by
  obtain ⟨hk, hkL, hM, hI, hR⟩ := h.cur
  have k2 := h.1.2.1
  have k3 := h.1.2.2.1
  have m1 := md4 hk
  have m2 := md4 k2
  have l1 := (lnL hkL).2.2.2.2.2
  have hc : ∀ j, spC LK (Mr.1 110) k j ≤ 300 := fun j => by
    have := dcN_le (LK := LK) (dr := true) (m := u9 (Mr.1 110) (nI (j + 1))) hI.u9 k (by omega)
    unfold spC; omega
  refine lp0 (fun i (N : Mm) => (N, nI (spL (spC LK (Mr.1 110) k) i), nI (spH (spC LK (Mr.1 110) k) i), nI (i + 1))) 6 (fun i N => Fr [Mc.2.2 1 4, Mc.2.2 1 4 + 1, Mc.2.2 1 4 + 2, Mc.2.2 1 4 + 3, Mc.2.2 1 5 + 5, 83, 84, 85, 86] Mc N) (by omega) Mc rfl Fr.rf (fun i N hi hF => ?_) (fun N hF => ?_)
  · show Tr (f_X9_span_L14 N (nI k) y (nI (spL (spC LK (Mr.1 110) k) i)) (nI (spH (spC LK (Mr.1 110) k) i)) (nI (i + 1))) _
    have hok := sp_ok hc i
    have hci := hc i
    have eN : N.2.2 1 = Mc.2.2 1 := (hF 1 (by simp; omega)).2.2
    have hMN : MR N (Mc.2.2 1 3) (Mr.1 110) := hM.fr (fun j a b => (hF j (by simp; omega)).1)
    have hRN : LR N (Mc.2.2 1 5) (Mr.1 110) := HL.1 _ _ _ _ hR (fun j a b => (hF j (by simp; omega)).1)
    obtain ⟨N1, p1, p2, p3⟩ := copyC k2 hk (fun e => k3 e.symm) hMN
    have e1 : N1.2.2 1 = Mc.2.2 1 := ((p3 1 (by simp; omega)).2.2).trans eN
    have q2 : MR (sI N1 (Mc.2.2 1 4) 8 (nI (i + 1))) (Mc.2.2 1 4) (u9 (Mr.1 110) (nI (i + 1))) := p2.u9
    have q3 : LR (sI N1 (Mc.2.2 1 4) 8 (nI (i + 1))) (Mc.2.2 1 5) (u9 (Mr.1 110) (nI (i + 1))) := by
      refine HL.2.1 _ _ _ _ (HL.1 _ _ _ _ hRN (fun j a b => ?_)) ⟨u9e (by decide), u9e (by decide), fun k a b => u9e (by omega)⟩
      rw [sI_fn (by omega)]
      exact (p3 j (by simp; omega)).1
    obtain ⟨r, r0, r1, r2⟩ := passDaysC HL k2 hkL (show (sI N1 (Mc.2.2 1 4) 8 (nI (i + 1))).2.2 1 5 = Mc.2.2 1 5 from by show N1.2.2 1 5 = _; rw [e1]) hI.u9 (show k ≤ 50 by omega) (by omega) q2 q3
    unfold f_X9_span_L14
    rw [if_neg (show ¬ (6 : Int32) < nI (i + 1) by rw [l_6, nI_ltI (by omega) (by omega)]; omega), Option.bind_some, show gR N 1 4 = Mc.2.2 1 4 from by show N.2.2 1 4 = _; rw [eN], if_pos k2, Option.bind_some, show gR N 1 3 = Mc.2.2 1 3 from by show N.2.2 1 3 = _; rw [eN], if_pos hk, p1, Option.bind_some, Option.bind_some, show gR N1 1 4 = Mc.2.2 1 4 from by show N1.2.2 1 4 = _; rw [e1], if_pos k2, Option.bind_some, Option.bind_some, show gR (sI N1 (Mc.2.2 1 4) 8 (nI (i + 1))) 1 4 = Mc.2.2 1 4 from by show N1.2.2 1 4 = _; rw [e1], if_pos k2, r0, Option.bind_some]
    refine Tr.some (Or.inl ⟨r.2, ?_, (hF.tr ((p3.mono (by simp)).tr (Fr.sI (by simp)))).tr r2.2.1⟩)
    have r1 : r.1 = nI (spC LK (Mr.1 110) k i) := r1
    rw [r1, mn_nI (by omega) (by omega), mx_nI (by omega) (by omega), spL_succ, spH_succ, show nI (i + 1) + 1 = nI (i + 1 + 1) from by rw [l_1, nI_add]]
  · show Tr (f_X9_span_L14 N (nI k) y (nI (spL (spC LK (Mr.1 110) k) 6)) (nI (spH (spC LK (Mr.1 110) k) 6)) (nI (6 + 1))) _
    unfold f_X9_span_L14
    rw [if_pos (by decide)]
    exact Tr.some ⟨_, rfl, rfl, hF⟩
def spR (y : Int32) (c : Nat → Nat) (i : Nat) : Int32 := if i = 0 then -1 else if y = 0 then nI (spL c i) else nI (spH c i)
theorem spanR (HL : LSpec LR LK) (hI : Inv m B) (hB : B + 500 < 2 ^ 31) (hR : LR Mc L m) (h0 : M.1 110 = m) (hA : AS m K M) {k : Nat} (hk30 : k ≤ 30) (y : Int32) : Tr (loop FU (fun a_9 => f_X10_span_L37 a_9.1 (nI k) y a_9.2.1 a_9.2.2) (M, (-1), 1)) (fun r => r.2 = spR y (spC LK m k) 6 ∧ AS m K r.1 ∧ r.1.1 110 = m) := by
  have hc : ∀ j, spC LK m k j ≤ 300 := fun j => by
    have := dcN_le (LK := LK) (dr := true) (m := u9 m (nI (j + 1))) hI.u9 k (by omega)
    unfold spC; omega
  refine lp0 (fun i (N : Mm) => (N, spR y (spC LK m k) i, nI (i + 1))) 6 (fun i N => AS m K N ∧ N.1 110 = m) (by omega) M rfl ⟨hA, h0⟩ (fun i N hi hP => ?_) (fun N hP => ?_)
  · obtain ⟨hS, hN⟩ := hP
    show Tr (f_X10_span_L37 N (nI k) y (spR y (spC LK m k) i) (nI (i + 1))) _
    have hok := sp_ok hc i
    have hci := hc i
    have ib : ibs (9 : Int32) 807 = true := by decide
    have s9 : sA N 110 9 (nI (i + 1)) = sI N 110 9 (nI (i + 1)) := rfl
    have e110 : (sI N 110 9 (nI (i + 1))).1 110 = u9 m (nI (i + 1)) := by rw [u9_110, hN]
    obtain ⟨g, g0, g1, g2⟩ := goesNR HL hI.u9 (show k ≤ 50 by omega) (by omega) e110 (HL.2.1 _ _ _ _ hR ⟨u9e (by decide), u9e (by decide), fun k a b => u9e (by omega)⟩)
    have hS2 : AS m K g.2 := by
      obtain ⟨a1, a2, a3⟩ := hS
      obtain ⟨d1, d2⟩ := g2
      refine ⟨(a1.tr (FrQ.sI (by simp) (by decide))).tr (d2.mono (by simp)), fun k hk => ?_, fun j hj => ?_⟩
      · rw [(d2.1 112 (by simp)).1, sI_fn (by decide)]; exact a2 k hk
      · rw [d1, dyN_hi (m := u9 m (nI (i + 1))) hI.u9 hj _ (by omega), u9e (by omega)]
    obtain ⟨Q, b1, b2, b3, b4⟩ := hS2.back
    unfold f_X10_span_L37
    rw [if_neg (show ¬ (6 : Int32) < nI (i + 1) by rw [l_6, nI_ltI (by omega) (by omega)]; omega), if_pos ib, s9, Option.bind_some, g0, Option.bind_some, b1, Option.bind_some, show nI (i + 1) + 1 = nI (i + 1 + 1) from by rw [l_1, nI_add]]
    have g1 : g.1 = nI (spC LK m k i) := g1
    by_cases hi0 : i = 0
    · subst hi0
      rw [if_pos (show spR y (spC LK m k) 0 = -1 from rfl)]
      refine Tr.some (Or.inl ⟨Q, ?_, b2, b3⟩)
      rw [g1]
      unfold spR
      rw [if_neg (by omega), spL_succ, spH_succ, show spL (spC LK m k) 0 = 300 from rfl, show spH (spC LK m k) 0 = 0 from rfl, Nat.min_eq_right hci, Nat.max_eq_right (Nat.zero_le _)]
      by_cases hy : y = 0
      · rw [if_pos hy]
      · rw [if_neg hy]
    · have e : spR y (spC LK m k) i = if y = 0 then nI (spL (spC LK m k) i) else nI (spH (spC LK m k) i) := by unfold spR; rw [if_neg hi0]
      have e' : spR y (spC LK m k) (i + 1) = if y = 0 then nI (spL (spC LK m k) (i + 1)) else nI (spH (spC LK m k) (i + 1)) := by unfold spR; rw [if_neg (by omega)]
      rw [e, e']
      by_cases hy : y = 0
      · rw [if_pos hy, if_pos hy, if_pos hy, if_neg (by rw [nI_ne_m1 (by omega)]; exact not_false), Option.bind_some]
        refine Tr.some (Or.inl ⟨Q, ?_, b2, b3⟩)
        rw [g1, les_nI (by omega) (by omega), spL_succ]
      · rw [if_neg hy, if_neg hy, if_neg hy, if_neg (by rw [nI_ne_m1 (by omega)]; exact not_false), Option.bind_some]
        refine Tr.some (Or.inl ⟨Q, ?_, b2, b3⟩)
        rw [g1, grt_nI (by omega) (by omega), spH_succ]
  · obtain ⟨hS, hN⟩ := hP
    show Tr (f_X10_span_L37 N (nI k) y (spR y (spC LK m k) 6) (nI (6 + 1))) _
    unfold f_X10_span_L37
    rw [if_pos (by decide)]
    exact Tr.some ⟨_, rfl, rfl, hS, hN⟩
theorem s_34 (HL : LSpec LR LK) (hn : n < 512) (h : RR LR n Mc Mr) : ∃ Nc Nr, so_34 x1 x2 x3 x4 x5 Mc Mr Nc Nr ∧ RR LR (n + 1) Nc Nr := by
  rcases ndC (Mc := Mc) (Mr := Mr) x1 with ⟨k, k1, rfl, n1, n2⟩ | ⟨n1, n2⟩
  · obtain ⟨hk, hkL, hM, hI, hR⟩ := h.cur
    obtain ⟨p, p1, p2, p3⟩ := spanC HL hn h k1 (nb x2)
    have e110 : (sI Mr 109 0 0).1 110 = Mr.1 110 := sI_fn (by decide)
    obtain ⟨A, a1, a2, a3, a4⟩ := asQ (M := sI Mr 109 0 0)
    rw [e110] at a2 a3
    obtain ⟨g, g1, g2, b2, b3⟩ := spanR HL hI (by omega) hR a3 a2 k1 (nb x2)
    have b5 : KpR Mr g.1 := KpR.t.tr (AS.kp (Mr := sI Mr 109 0 0) (by rw [e110]; exact b2) (b3.trans e110.symm))
    have z0 : gI g.1 109 0 = 0 := (b2.1.2 0 (by simp)).trans t0
    refine ⟨p.1, g.1, ⟨_, spR (nb x2) (spC LK (Mr.1 110) k) 6, ?_, ?_, Or.inl ⟨rfl, z0⟩⟩, RR_dr HL h p3 b5⟩
    · unfold f_X9_span spR
      rw [n1, Option.bind_some, Sum.elim_inl, p1, Option.bind_some, p2, if_neg (show ¬ (6 : Nat) = 0 by decide)]
      by_cases c : nb x2 = 0
      · rw [if_pos c, if_pos c]
      · rw [if_neg c, if_neg c]
    · unfold f_X10_span f_X10_span_J16
      rw [n2, if_pos rfl, Option.bind_some, t0, if_pos (by decide), a1, Option.bind_some, g1, Option.bind_some, g2]
  · refine ⟨Mc, sI Mr 109 0 1, ⟨_, 0, ?_, ?_, Or.inr ⟨1, rfl, by rw [t0]; rfl, by rw [t0]; decide⟩⟩, RR_q HL h KpC.rf ⟨rfl, rfl⟩ KpR.t⟩
    · unfold f_X9_span
      rw [n1, Option.bind_some, Sum.elim_inr]
    · unfold f_X10_span f_X10_span_J16
      rw [n2, if_neg (by decide), Option.bind_some, t0, if_neg (by decide)]
end SPAN
