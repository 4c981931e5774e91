/-! log -/
section LOG
variable {LR : Mm → Nat → (Nat → Int32) → Prop} {LK : (Nat → Int32) → Nat → Nat → Int32 → Int32} {n : Nat} {M N Mc Mr Nc Nr : Mm} {q B : Nat} {m : Nat → Int32} {x x1 x2 x3 x4 x5 w : Int32}
theorem rowsC (h : MR M q m) (hI : Inv m B) (hB : B < 2 ^ 31) : f_X4_logRows M q = nI (min (hN m) 60) := by
  obtain ⟨hh1, hh2⟩ := hI.h
  have e7 : gI M q 9 = nI (hN m) := h.2.2.2.2.2.2.2.2.1.trans hh1
  unfold f_X4_logRows mn
  rw [e7, show (60 : Int32) = nI 60 from rfl]
  by_cases hc : 60 < hN m
  · rw [if_pos (by rw [nI_ltI (by omega) (by omega)]; exact hc), Nat.min_eq_right (by omega)]
  · rw [if_neg (by rw [nI_ltI (by omega) (by omega)]; exact hc), Nat.min_eq_left (by omega)]
theorem loggedC (hk : kd q = 4) (h : MR M q m) (hI : Inv m B) (hB : B < 2 ^ 31) {a c : Nat} (ha : a < min (hN m) 60) (hc : c < 5) : f_X4_logged M q (nI a) (nI c) = m (107 + 5 * a + c) := by
  obtain ⟨hh1, hh2⟩ := hI.h
  have e7 : gI M q 9 = nI (hN m) := h.2.2.2.2.2.2.2.2.1.trans hh1
  have hz : (hN m - 1 - a) % 60 < 60 := Nat.mod_lt _ (by decide)
  have e1 : nI (hN m) - 1 - nI a = nI (hN m - 1 - a) := by
    rw [l_1, nI_subI (by omega), nI_subI (by omega)]
  have e2 : nI (hN m - 1 - a) - nI (hN m - 1 - a) / 60 * 60 = nI ((hN m - 1 - a) % 60) := by
    rw [show (60 : Int32) = nI 60 from rfl, nI_divI (by omega) (by decide) (by decide), nI_mulI, nI_subI (by omega)]
    congr 1; omega
  unfold f_X4_logged
  rw [e7, e1, e2, l_5, nI_mulI, nI_add, at_nI (lnM hk).2.2.1 (by omega)]
  exact h.2.2.2.2.2.2.2.2.2 a c ha hc
theorem loggedR (hm : M.1 110 = m) {a c : Nat} (ha : a < 60) (hc : c < 5) : f_X10_logged M (nI a) (nI c) = some (m (107 + 5 * a + c)) := by
  unfold f_X10_logged
  rw [show (107 : Int32) + 5 * nI a + nI c = nI (107 + 5 * a + c) from ix5 (b := 107), if_pos (ib807 (by omega)), gA_nI (by omega), hm]
theorem s_36 (HL : LSpec LR LK) (hn : n < 512) (h : RR LR n Mc Mr) : ∃ Nc Nr, so_36 x1 x2 x3 x4 x5 Mc Mr Nc Nr ∧ RR LR (n + 1) Nc Nr := by
  obtain ⟨hk, hkL, hM, hI, hR⟩ := h.cur
  have gq : gR Mc 1 3 = Mc.2.2 1 3 := rfl
  have e110 : (sI Mr 109 0 0).1 110 = Mr.1 110 := sI_fn (by decide)
  have ib : ibs (8 : Int32) 807 = true := by decide
  have g8 : gA (sI Mr 109 0 0) 110 8 = nI (min (hN (Mr.1 110)) 60) := hI.2.2.2.2.2.1
  have hr := rowsC hM hI (by omega)
  rcases rngE (M := Mr) 5 (by decide) x2 with ⟨c, c1, rfl, c2, c3, c4⟩ | ⟨c1, c2⟩
  · have cr : f_X10_log Mr x1 (nI c) = if f_X10_isIn (sI Mr 109 0 0) x1 0 (nI (min (hN (Mr.1 110)) 60) - 1) = true then ((f_X10_logged (sI Mr 109 0 0) x1 (nI c)).bind (fun r2 => some (r2, sI Mr 109 0 0))) else some (-1, sI Mr 109 0 0) := by
      unfold f_X10_log f_X10_log_J15
      rw [if_pos (show f_X10_isIn Mr (nI c) 0 4 = true from c4), Option.bind_some, t0, if_pos (by decide), if_pos ib, g8]
    have cc : f_X9_log Mc x1 (nI c) = if x1 < 0 then some (.inl (-1, Mc)) else if x1 < nI (min (hN (Mr.1 110)) 60) then some (.inl (f_X4_logged Mc (Mc.2.2 1 3) x1 (nI c), Mc)) else some (.inl (-1, Mc)) := by
      unfold f_X9_log f_X9_log_J35
      rw [if_neg c2, if_pos (show nI c < 5 from c3), Option.bind_some, gq, if_pos hk, hr, Option.bind_some, if_pos hk]
    have hmin : min (hN (Mr.1 110)) 60 ≤ 60 := Nat.min_le_right _ _
    have fin : ∀ w : Int32, f_X9_log Mc x1 (nI c) = some (.inl (w, Mc)) → f_X10_log Mr x1 (nI c) = some (w, sI Mr 109 0 0) → ∃ Nc Nr, so_36 x1 (nI c) x3 x4 x5 Mc Mr Nc Nr ∧ RR LR (n + 1) Nc Nr := fun w w1 w2 => ⟨Mc, sI Mr 109 0 0, ⟨_, w, w1, w2, Or.inl ⟨rfl, t0⟩⟩, RR_q HL h KpC.rf ⟨rfl, rfl⟩ KpR.t⟩
    rcases rngE (M := sI Mr 109 0 0) (min (hN (Mr.1 110)) 60) (by omega) x1 with ⟨a, a1, rfl, a2, a3, a4⟩ | ⟨a1, a2⟩
    · refine fin (Mr.1 110 (107 + 5 * a + c)) ?_ ?_
      · rw [cc, if_neg a2, if_pos a3, loggedC hk hM hI (by omega) a1 c1]
      · rw [cr, if_pos a4, loggedR e110 (by omega) c1]; rfl
    · refine fin (-1) ?_ ?_
      · rw [cc]
        rcases a1 with a1 | ⟨a1, a3⟩
        · rw [if_pos a1]
        · rw [if_neg a1, if_neg a3]
      · rw [cr, if_neg (by rw [a2]; decide)]
  · refine ⟨Mc, sI Mr 109 0 1, ⟨_, 0, ?_, ?_, Or.inr ⟨4, rfl, by rw [t0]; rfl, by rw [t0]; decide⟩⟩, RR_q HL h KpC.rf ⟨rfl, rfl⟩ KpR.t⟩
    · unfold f_X9_log f_X9_log_J9
      rcases c1 with c1 | ⟨c1, c3⟩
      · rw [if_pos c1]
      · rw [if_neg c1, if_neg (show ¬ x2 < 5 from c3)]
    · unfold f_X10_log f_X10_log_J15
      rw [if_neg (show ¬ f_X10_isIn Mr x2 0 4 = true from by rw [show f_X10_isIn Mr x2 0 4 = false from c2]; decide), Option.bind_some, t0, if_neg (by decide)]
end LOG
