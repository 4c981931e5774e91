/-! liking, steps, count, alone -/
section ASK
variable {LR : Mm → Nat → (Nat → Int32) → Prop} {LK : (Nat → Int32) → Nat → Nat → Int32 → Int32} {n : Nat} {M N Mc Mr Nc Nr : Mm} {q L B a b c : Nat} {m m2 : Nat → Int32} {x x1 x2 x3 x4 x5 : Int32}
theorem s_7 (HL : LSpec LR LK) (h : RR LR n Mc Mr) : ∃ Nc Nr, so_7 x1 x2 x3 x4 x5 Mc Mr Nc Nr ∧ RR LR (n + 1) Nc Nr := by
  have bad1 : (f_X9_liking Mc x1 x2 = some (.inr (2, Mc)) ∧ f_X10_liking Mr x1 x2 = some (0, sI Mr 109 0 1)) → ∃ Nc Nr, so_7 x1 x2 x3 x4 x5 Mc Mr Nc Nr ∧ RR LR (n + 1) Nc Nr := fun ⟨h1, h2⟩ =>
    ⟨Mc, sI Mr 109 0 1, ⟨_, 0, h1, h2, Or.inr ⟨2, rfl, by rw [t0]; rfl, by rw [t0]; decide⟩⟩, RR_q HL h KpC.rf ⟨rfl, rfl⟩ KpR.t⟩
  rcases needT h x1 with ⟨t, t1, rfl, n1, n2⟩ | ⟨n1, n2⟩
  · rcases needV h x2 with ⟨v, v1, rfl, n3, n4⟩ | ⟨n3, n4⟩
    · obtain ⟨hk, hkL, hM, hI, hR⟩ := h.cur
      have hV := hI.v
      have e110 : (sI Mr 109 0 0).1 110 = Mr.1 110 := sI_fn (by decide)
      obtain ⟨r, r1, r2, r3⟩ := HL.2.2.2.1 Mc (Mc.2.2 1 3) (Mc.2.2 1 5) (Mr.1 110) t v _ hk hkL hM hI hR t1 v1
      obtain ⟨s, s1, s2, s3⟩ := HL.2.2.2.2.1 (sI Mr 109 0 0) t v (Mr.1 110 (57 + 5 * v + 4)) _ Mc (Mc.2.2 1 5) (by rw [e110]; exact hI) (by rw [e110]; exact hR) (by rw [e110]; exact t1) (by rw [e110]; exact v1)
      rw [e110] at s2
      have s3 : FrQ [109, 115] (sI Mr 109 0 0) s.2 := s3
      have hl := (lnL hkL).2.2.2.2.2
      have o2 : f_X10_ofOne (sI Mr 109 0 0) (nI v) 4 = some (Mr.1 110 (57 + 5 * v + 4)) := by rw [← e110]; exact ofOneR (c := 4) (by omega) (by decide)
      refine ⟨r.2, s.2, ⟨_, LK (Mr.1 110) t v (Mr.1 110 (57 + 5 * v + 4)), ?_, ?_, Or.inl ⟨rfl, ?_⟩⟩, RR_q HL h (fun i h1 h2 h3 h4 h5 => (r3 i (by simp; omega)).1) ⟨(r3 1 (by simp <;> omega)).2.2, (r3 3 (by simp <;> omega)).2.2⟩ (KpR.t.tr (KpR.of s3 (by simp) (by simp) (by simp) (by simp)))⟩
      · unfold f_X9_liking
        rw [n1, Option.bind_some, Sum.elim_inl, n3, Option.bind_some, Sum.elim_inl, Option.bind_some, show gR Mc 1 5 = Mc.2.2 1 5 from rfl, if_pos hkL, Option.bind_some, show gR Mc 1 3 = Mc.2.2 1 3 from rfl, if_pos hk, r1, Option.bind_some, r2]
      · unfold f_X10_liking f_X10_liking_J22
        rw [n2, Option.bind_some, if_pos rfl, n4, Option.bind_some, if_pos rfl, Option.bind_some, t0, if_pos (by decide), o2, Option.bind_some, s1, Option.bind_some, s2]
      · exact (s3.2 0 (by simp)).trans t0
    · refine bad1 ⟨?_, ?_⟩
      · unfold f_X9_liking
        rw [n1, Option.bind_some, Sum.elim_inl, n3, Option.bind_some, Sum.elim_inr]
      · unfold f_X10_liking f_X10_liking_J17 f_X10_liking_J22
        rw [n2, Option.bind_some, if_pos rfl, n4, Option.bind_some, if_neg (by decide), Option.bind_some, t0, if_neg (by decide)]
  · refine bad1 ⟨?_, ?_⟩
    · unfold f_X9_liking
      rw [n1, Option.bind_some, Sum.elim_inr]
    · unfold f_X10_liking f_X10_liking_J17 f_X10_liking_J22
      rw [n2, Option.bind_some, if_neg (by decide), Option.bind_some, t0, if_neg (by decide)]
theorem st_all : ∀ k, k < 10 → 1 ≤ k → (19 : Int32) / nI k + 1 = (20 + nI k - 1) / nI k := by decide +kernel
theorem s_32 (HL : LSpec LR LK) (h : RR LR n Mc Mr) : ∃ Nc Nr, so_32 x1 x2 x3 x4 x5 Mc Mr Nc Nr ∧ RR LR (n + 1) Nc Nr := by
  obtain ⟨hk, hkL, hM, hI, hR⟩ := h.cur
  obtain ⟨k, hk1, hk2, hk3⟩ := hI.sp
  have ib : ibs (5 : Int32) 807 = true := by decide
  have g5 : gA (sI Mr 109 0 0) 110 5 = nI k := hk1
  have nz : ¬ nI k = 0 := by rw [show (0 : Int32) = nI 0 from rfl, nI_eq (by omega) (by omega)]; omega
  have sc : ∀ y, t_X4_stepOf Mc (Mc.2.2 1 3) y = y / nI k := fun y => by rw [stepC hM hI, hk1]
  have gq : gR Mc 1 3 = Mc.2.2 1 3 := rfl
  by_cases c0 : x1 = -1
  · subst c0
    refine ⟨Mc, sI Mr 109 0 0, ⟨_, (19 : Int32) / nI k + 1, ?_, ?_, Or.inl ⟨rfl, t0⟩⟩, RR_q HL h KpC.rf ⟨rfl, rfl⟩ KpR.t⟩
    · unfold f_X9_steps
      rw [if_pos rfl, Option.bind_some, gq, if_pos hk, sc]
    · unfold f_X10_steps f_X10_steps_J20 f_X10_steps_J21
      rw [if_pos rfl, Option.bind_some, t0, if_pos (by decide), if_pos rfl, if_pos ib, if_pos ib, g5, if_pos nz, st_all k (by omega) hk2]
  · rcases rngE (M := Mr) 20 (by decide) x1 with ⟨j, k1, rfl, k2, k3, k4⟩ | ⟨k1, k2⟩
    · refine ⟨Mc, sI Mr 109 0 0, ⟨_, nI j / nI k, ?_, ?_, Or.inl ⟨rfl, t0⟩⟩, RR_q HL h KpC.rf ⟨rfl, rfl⟩ KpR.t⟩
      · unfold f_X9_steps f_X9_needCell
        rw [if_neg c0, if_neg k2, if_pos (show nI j < 20 from k3), Option.bind_some, Sum.elim_inl, Option.bind_some, gq, if_pos hk, sc]
      · unfold f_X10_steps f_X10_steps_J20 f_X10_steps_J21
        rw [if_neg c0, if_pos (show f_X10_isIn Mr (nI j) 0 19 = true from k4), Option.bind_some, t0, if_pos (by decide), if_neg c0, if_pos ib, g5, if_pos nz]
    · refine ⟨Mc, sI Mr 109 0 1, ⟨_, 0, ?_, ?_, Or.inr ⟨2, rfl, by rw [t0]; rfl, by rw [t0]; decide⟩⟩, RR_q HL h KpC.rf ⟨rfl, rfl⟩ KpR.t⟩
      · unfold f_X9_steps f_X9_needCell f_X9_needCell_J10
        rw [if_neg c0]
        rcases k1 with k1 | ⟨k1, k3⟩
        · rw [if_pos k1]; rfl
        · rw [if_neg k1, if_neg (show ¬ x1 < 20 from k3)]; rfl
      · unfold f_X10_steps f_X10_steps_J21
        rw [if_neg c0, if_neg (show ¬ f_X10_isIn Mr x1 0 19 = true from by rw [show f_X10_isIn Mr x1 0 19 = false from k2]; decide), Option.bind_some, t0, if_neg (by decide)]
theorem shownC (hk : kd q = 4) (h : MR M q m) (hI : Inv m B) : f_X4_shownThings M q = some (iter (fun t s => s ||| (m (12 + 5 * t + 3) <<< (nI t &&& 31))) (tN m) 0) := by
  obtain ⟨e3, hT⟩ := hI.t
  have g3 : gI M q 3 = nI (tN m) := h.2.2.1.trans e3
  unfold f_X4_shownThings
  have : loop FU (fun a_2 => f_X4_shownThings_L4 M q a_2.1 a_2.2) (0, 0) = some (iter (fun t s => s ||| (m (12 + 5 * t + 3) <<< (nI t &&& 31))) (tN m) 0) := by
    refine lpI (fun t s => (s, nI t)) (tN m) (fun t s => s ||| (m (12 + 5 * t + 3) <<< (nI t &&& 31))) id (by omega) 0 rfl (fun t s ht => ?_) (fun s => ?_)
    · show f_X4_shownThings_L4 M q s (nI t) = _
      unfold f_X4_shownThings_L4
      rw [g3, if_neg (by rw [nI_leI (by omega) (by omega)]; omega), show f_X4_ofThing M q (nI t) 3 = m (12 + 5 * t + 3) from ofT (c := 3) hk h (by omega) (by decide), Option.bind_some, l_1, nI_add]
    · show f_X4_shownThings_L4 M q s (nI (tN m)) = _
      unfold f_X4_shownThings_L4
      rw [g3, if_pos (by rw [nI_leI (by omega) (by omega)]; omega)]
      rfl
  rw [this]; rfl
theorem shownR (hm : M.1 110 = m) (hI : Inv m B) : f_X10_shown M = some (iter (fun t s => s ||| (m (12 + 5 * t + 3) <<< (nI t &&& 31))) (tN m) 0) := by
  obtain ⟨e3, hT⟩ := hI.t
  have g3 : gA M 110 3 = nI (tN m) := by rw [← hm] at e3 ⊢; exact e3
  have ib : ibs (3 : Int32) 807 = true := by decide
  unfold f_X10_shown
  have : loop FU (fun a_3 => f_X10_shown_L4 M a_3.1 a_3.2) (0, 0) = some (iter (fun t s => s ||| (m (12 + 5 * t + 3) <<< (nI t &&& 31))) (tN m) 0) := by
    refine lpI (fun t s => (s, nI t)) (tN m) (fun t s => s ||| (m (12 + 5 * t + 3) <<< (nI t &&& 31))) id (by omega) 0 rfl (fun t s ht => ?_) (fun s => ?_)
    · show f_X10_shown_L4 M s (nI t) = _
      unfold f_X10_shown_L4
      rw [if_pos ib, g3, if_neg (by rw [nI_leI (by omega) (by omega)]; omega), show f_X10_of M (nI t) 3 = some (m (12 + 5 * t + 3)) from by rw [← hm]; exact ofR (c := 3) (by omega) (by decide), Option.bind_some, Option.bind_some, l_1, nI_add]
    · show f_X10_shown_L4 M s (nI (tN m)) = _
      unfold f_X10_shown_L4
      rw [if_pos ib, g3, if_pos (by rw [nI_leI (by omega) (by omega)]; omega)]
      rfl
  rw [this]; rfl
theorem sumC (hk : kd q = 4) (h : MR M q m) (hI : Inv m B) {c : Nat} (hc : c < 5) : f_X4_sumOfThings M q (nI c) = some (iter (fun t s => s + m (12 + 5 * t + c)) (tN m) 0) := by
  obtain ⟨e3, hT⟩ := hI.t
  have g3 : gI M q 3 = nI (tN m) := h.2.2.1.trans e3
  unfold f_X4_sumOfThings
  have : loop FU (fun a_2 => f_X4_sumOfThings_L4 M q (nI c) a_2.1 a_2.2) (0, 0) = some (iter (fun t s => s + m (12 + 5 * t + c)) (tN m) 0) := by
    refine lpI (fun t s => (s, nI t)) (tN m) (fun t s => s + m (12 + 5 * t + c)) id (by omega) 0 rfl (fun t s ht => ?_) (fun s => ?_)
    · show f_X4_sumOfThings_L4 M q (nI c) s (nI t) = _
      unfold f_X4_sumOfThings_L4
      rw [g3, if_neg (by rw [nI_leI (by omega) (by omega)]; omega), ofT hk h (by omega) hc, Option.bind_some, l_1, nI_add]
    · show f_X4_sumOfThings_L4 M q (nI c) s (nI (tN m)) = _
      unfold f_X4_sumOfThings_L4
      rw [g3, if_pos (by rw [nI_leI (by omega) (by omega)]; omega)]
      rfl
  rw [this]; rfl
theorem sumR (hm : M.1 110 = m) (hI : Inv m B) {c : Nat} (hc : c < 5) : f_X10_together M (nI c) = some (iter (fun t s => s + m (12 + 5 * t + c)) (tN m) 0) := by
  obtain ⟨e3, hT⟩ := hI.t
  have g3 : gA M 110 3 = nI (tN m) := by rw [← hm] at e3 ⊢; exact e3
  have ib : ibs (3 : Int32) 807 = true := by decide
  unfold f_X10_together
  have : loop FU (fun a_2 => f_X10_together_L4 M (nI c) a_2.1 a_2.2) (0, 0) = some (iter (fun t s => s + m (12 + 5 * t + c)) (tN m) 0) := by
    refine lpI (fun t s => (s, nI t)) (tN m) (fun t s => s + m (12 + 5 * t + c)) id (by omega) 0 rfl (fun t s ht => ?_) (fun s => ?_)
    · show f_X10_together_L4 M (nI c) s (nI t) = _
      unfold f_X10_together_L4
      rw [if_pos ib, g3, if_neg (by rw [nI_leI (by omega) (by omega)]; omega), ofR (by omega) hc, Option.bind_some, l_1, nI_add, hm]
    · show f_X10_together_L4 M (nI c) s (nI (tN m)) = _
      unfold f_X10_together_L4
      rw [if_pos ib, g3, if_pos (by rw [nI_leI (by omega) (by omega)]; omega)]
      rfl
  rw [this]; rfl
end ASK
