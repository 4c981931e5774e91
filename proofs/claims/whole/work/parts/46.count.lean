/-! count, alone -/
section COUNT
variable {LR : Mm → Nat → (Nat → Int32) → Prop} {LK : (Nat → Int32) → Nat → Nat → Int32 → Int32} {n : Nat} {M N Mc Mr Nc Nr : Mm} {q L B a b c : Nat} {m m2 : Nat → Int32} {x x1 x2 x3 x4 x5 : Int32}
theorem s_41 (HL : LSpec LR LK) (hn : n < 512) (h : RR LR n Mc Mr) : ∃ Nc Nr, so_41 x1 x2 x3 x4 x5 Mc Mr Nc Nr ∧ RR LR (n + 1) Nc Nr := by
  obtain ⟨hk, hkL, hM, hI, hR⟩ := h.cur
  have h11 : gI Mc 1 11 = gI (sI Mr 109 0 0) 109 6 := h.2.2.2.2.2.2.2.1
  have hl6 : gI Mc (Mc.2.2 1 5) 6 = Mr.1 110 1 := HL.2.2.2.2.2.2.2 _ _ _ hR
  have gq : gR Mc 1 3 = Mc.2.2 1 3 := rfl
  have gL : gR Mc 1 5 = Mc.2.2 1 5 := rfl
  have e110 : (sI Mr 109 0 0).1 110 = Mr.1 110 := sI_fn (by decide)
  have q1 := shownC hk hM hI
  have q2 := shownR e110 hI
  have q3 := sumC hk hM hI (c := 4) (by decide)
  have q4 := sumR e110 hI (c := 4) (by decide)
  have q5 := sumC hk hM hI (c := 2) (by decide)
  have q6 := sumR e110 hI (c := 2) (by decide)
  have q3 : f_X4_sumOfThings Mc (Mc.2.2 1 3) 4 = _ := q3
  have q4 : f_X10_together (sI Mr 109 0 0) 4 = _ := q4
  have q5 : f_X4_sumOfThings Mc (Mc.2.2 1 3) 2 = _ := q5
  have q6 : f_X10_together (sI Mr 109 0 0) 2 = _ := q6
  obtain ⟨hh1, hh2⟩ := hI.h
  have q7 : f_X4_logRows Mc (Mc.2.2 1 3) = Mr.1 110 8 := by
    have e7 : gI Mc (Mc.2.2 1 3) 9 = nI (hN (Mr.1 110)) := hM.2.2.2.2.2.2.2.2.1.trans hh1
    unfold f_X4_logRows mn
    rw [e7, show (60 : Int32) = nI 60 from rfl, hI.2.2.2.2.2.1]
    by_cases hc : 60 < hN (Mr.1 110)
    · rw [if_pos (by rw [nI_ltI (by omega) (by omega)]; exact hc), Nat.min_eq_right (by omega)]
    · rw [if_neg (by rw [nI_ltI (by omega) (by omega)]; exact hc), Nat.min_eq_left (by omega)]
  have gA' : ∀ k : Int32, gA (sI Mr 109 0 0) 110 k = Mr.1 110 k.toNatClampNeg := fun k => by
    show (sI Mr 109 0 0).1 110 _ = _
    rw [e110]
  refine ⟨Mc, sI Mr 109 0 0, ?_, RR_q HL h KpC.rf ⟨rfl, rfl⟩ KpR.t⟩
  have fin : ∀ o : Option Int32, f_X9_count Mc x1 = o → (∃ v, o = some v ∧ f_X10_count Mr x1 = some (v, sI Mr 109 0 0)) → so_41 x1 x2 x3 x4 x5 Mc Mr Mc (sI Mr 109 0 0) := fun o h1 h2 => by
    obtain ⟨v, h3, h4⟩ := h2
    exact ⟨v, ⟨h1.trans h3, rfl⟩, h4⟩
  refine fin _ rfl ?_
  unfold f_X9_count f_X10_count
  rw [Option.bind_some]
  have i3 : ibs (3 : Int32) 807 = true := by decide
  have i4 : ibs (4 : Int32) 807 = true := by decide
  have i0 : ibs (0 : Int32) 807 = true := by decide
  have i1 : ibs (1 : Int32) 807 = true := by decide
  have i6 : ibs (6 : Int32) 807 = true := by decide
  have i5 : ibs (5 : Int32) 807 = true := by decide
  have i7 : ibs (7 : Int32) 807 = true := by decide
  have i8 : ibs (8 : Int32) 807 = true := by decide
  simp only [Option.bind_some, gq, gL, if_pos hk, if_pos hkL, if_pos i3, if_pos i4, if_pos i0, if_pos i1, if_pos i6, if_pos i5, if_pos i7, if_pos i8, q1, q2, q3, q4, q5, q6, q7, hl6, h11, gA']
  obtain ⟨w1, w2, w3, w4, w5, w6, w7, w8, w9, w10⟩ := hM
  by_cases c0 : x1 = 0
  · rw [if_pos c0, if_pos c0]; exact ⟨_, rfl, by rw [show gI Mc (Mc.2.2 1 3) 3 = _ from w3]; rfl⟩
  rw [if_neg c0, if_neg c0]
  by_cases c1 : x1 = 1
  · rw [if_pos c1, if_pos c1]; exact ⟨_, rfl, by rw [show gI Mc (Mc.2.2 1 3) 4 = _ from w4]; rfl⟩
  rw [if_neg c1, if_neg c1]
  by_cases c2 : x1 = 2
  · rw [if_pos c2, if_pos c2]; exact ⟨_, rfl, by rw [show gI Mc (Mc.2.2 1 3) 5 = _ from w5]; rfl⟩
  rw [if_neg c2, if_neg c2]
  by_cases c3 : x1 = 3
  · rw [if_pos c3, if_pos c3]; exact ⟨_, rfl, rfl⟩
  rw [if_neg c3, if_neg c3]
  by_cases c4 : x1 = 4
  · rw [if_pos c4, if_pos c4]; exact ⟨_, rfl, by rw [show gI Mc (Mc.2.2 1 3) 7 = _ from w7]; rfl⟩
  rw [if_neg c4, if_neg c4]
  by_cases c5 : x1 = 5
  · rw [if_pos c5, if_pos c5]; exact ⟨_, rfl, by rw [show gI Mc (Mc.2.2 1 3) 6 = _ from w6]; rfl⟩
  rw [if_neg c5, if_neg c5]
  by_cases c6 : x1 = 6
  · rw [if_pos c6, if_pos c6]; exact ⟨_, rfl, rfl⟩
  rw [if_neg c6, if_neg c6]
  by_cases c7 : x1 = 7
  · rw [if_pos c7, if_pos c7]; exact ⟨_, rfl, rfl⟩
  rw [if_neg c7, if_neg c7]
  by_cases c8 : x1 = 8
  · rw [if_pos c8, if_pos c8]; exact ⟨_, rfl, rfl⟩
  rw [if_neg c8, if_neg c8]
  by_cases c9 : x1 = 9
  · rw [if_pos c9, if_pos c9]; exact ⟨_, rfl, by rw [show gI Mc (Mc.2.2 1 3) 9 = _ from w9]; rfl⟩
  rw [if_neg c9, if_neg c9]
  by_cases c10 : x1 = 10
  · rw [if_pos c10, if_pos c10]; exact ⟨_, rfl, rfl⟩
  rw [if_neg c10, if_neg c10]
  by_cases c11 : x1 = 11
  · rw [if_pos c11, if_pos c11]; exact ⟨_, rfl, rfl⟩
  rw [if_neg c11, if_neg c11]
  exact ⟨_, rfl, rfl⟩
end COUNT
