/-! hold, clean, show, mark, move, trade -/
section SET
variable {LR : Mm → Nat → (Nat → Int32) → Prop} {LK : (Nat → Int32) → Nat → Nat → Int32 → Int32} {n : Nat} {M N Mc Mr Nc Nr : Mm} {q L B a d c : Nat} {m m2 : Nat → Int32} {x x1 x2 x3 x4 x5 : Int32}
theorem RR_t (HL : LSpec LR LK) (h : RR LR n Mc Mr) (x : Int32) : RR LR n Mc (sI Mr 109 0 x) := RR_keep HL h KpC.rf ⟨rfl, rfl⟩ KpR.t
theorem t0 {x : Int32} : gI (sI M 109 0 x) 109 0 = x := by show (sI M 109 0 x).1 109 0 = x; rw [sI_at, if_pos ⟨rfl, rfl⟩]
theorem sA110 {k : Nat} (h : k < 807) : sA M 110 (nI k) x = sI M 110 k x := sA_nI (by omega)
theorem ib807 {k : Nat} (h : k < 807) : ibs (nI k) 807 = true := ibs_nI h (by decide)
theorem ix5 {b t c : Nat} : nI b + nI 5 * nI t + nI c = nI (b + 5 * t + c) := by rw [nI_mulI, nI_add, nI_add]
theorem s_9 (HL : LSpec LR LK) (h : RR LR n Mc Mr) : ∃ Nc Nr, so_9 x1 x2 x3 x4 x5 Mc Mr Nc Nr ∧ RR LR (n + 1) Nc Nr := by
  rcases needT h x1 with ⟨t, t1, rfl, n1, n2⟩ | ⟨n1, n2⟩
  · rcases rngE (M := Mr) 100 (by decide) x2 with ⟨k, k1, rfl, k2, k3, k4⟩ | ⟨k1, k2⟩
    · obtain ⟨Nc, Nr, r1, r2, r3, r4, r5, r6⟩ := remCR HL (RR_t HL h 0)
      obtain ⟨hk, hkL, hM, hI, hR⟩ := r3.cur
      rw [r4] at hM hI
      have r4' : Nr.1 110 = Mr.1 110 := r4.trans (sI_fn (by decide))
      have t9 : t < 9 := by have := h.cur.2.2.2.1.t; omega
      have gq : Nc.2.2 1 3 = gR Nc 1 3 := rfl
      have o1 : f_X4_ofThing Nc (Nc.2.2 1 3) (nI t) 1 = (sI Mr 109 0 0).1 110 (12 + 5 * t + 1) := ofT (c := 1) hk hM t9 (by decide)
      have o2 : f_X10_of Nr (nI t) 1 = some ((sI Mr 109 0 0).1 110 (12 + 5 * t + 1)) := by rw [← r4]; exact ofR (c := 1) t9 (by decide)
      have o3 : f_X4_setThing Nc (Nc.2.2 1 3) (nI t) 1 (nI k) = sI Nc (Nc.2.2 1 3 + 1) (t * 5 + 1) (nI k) := setThingC (c := 1) hk t9 (by decide)
      have o4 : (12 : Int32) + 5 * nI t + 1 = nI (12 + 5 * t + 1) := ix5 (b := 12) (c := 1)
      refine ⟨_, _, ⟨_, (sI Mr 109 0 0).1 110 (12 + 5 * t + 1), ?_, ?_, Or.inl ⟨rfl, ?_⟩⟩, RR_setT HL r3 (t := t) (c := 1) (x := nI k) t9 (by decide) (Or.inr (Or.inl ⟨rfl, isN_nI (by omega) (by decide)⟩))⟩
      · unfold f_X9_hold
        rw [n1, Option.bind_some, Sum.elim_inl, if_neg k2, if_pos (show nI k < 100 from k3), r1, Option.bind_some, Option.bind_some, ← gq, if_pos hk, o1, Option.bind_some, Option.bind_some, if_pos hk, o3]
        rfl
      · unfold f_X10_hold f_X10_hold_J28
        rw [n2, Option.bind_some, if_pos rfl, if_pos (show f_X10_isIn Mr (nI k) 0 99 = true from k4), Option.bind_some, t0, if_pos (by decide), r2, Option.bind_some, o2, Option.bind_some, o4, if_pos (ib807 (by omega)), sA110 (by omega)]
        rfl
      · show (sI Nr 110 _ _).1 109 0 = 0
        rw [sI_fn (by decide), r5]; exact t0
    · refine ⟨Mc, sI Mr 109 0 2, ⟨_, 0, ?_, ?_, Or.inr ⟨1, rfl, by rw [t0]; rfl, by rw [t0]; decide⟩⟩, RR_q HL h KpC.rf ⟨rfl, rfl⟩ KpR.t⟩
      · unfold f_X9_hold f_X9_hold_J15
        rw [n1, Option.bind_some, Sum.elim_inl]
        rcases k1 with k1 | ⟨k1, k3⟩
        · rw [if_pos k1]
        · rw [if_neg k1, if_neg (show ¬ x2 < 100 from k3)]
      · unfold f_X10_hold f_X10_hold_J28
        rw [n2, Option.bind_some, if_pos rfl, if_neg (show ¬ f_X10_isIn Mr x2 0 99 = true from by rw [show f_X10_isIn Mr x2 0 99 = false from k2]; decide), Option.bind_some, t0, if_neg (by decide)]
  · refine ⟨Mc, sI Mr 109 0 1, ⟨_, 0, ?_, ?_, Or.inr ⟨2, rfl, by rw [t0]; rfl, by rw [t0]; decide⟩⟩, RR_q HL h KpC.rf ⟨rfl, rfl⟩ KpR.t⟩
    · unfold f_X9_hold
      rw [n1, Option.bind_some, Sum.elim_inr]
    · unfold f_X10_hold f_X10_hold_J28
      rw [n2, Option.bind_some, if_neg (by decide), Option.bind_some, t0, if_neg (by decide)]
theorem s_11 (HL : LSpec LR LK) (h : RR LR n Mc Mr) : ∃ Nc Nr, so_11 x1 x2 x3 x4 x5 Mc Mr Nc Nr ∧ RR LR (n + 1) Nc Nr := by
  rcases needV h x1 with ⟨t, t1, rfl, n1, n2⟩ | ⟨n1, n2⟩
  · rcases rngE (M := Mr) 10 (by decide) x2 with ⟨k, k1, rfl, k2, k3, k4⟩ | ⟨k1, k2⟩
    · obtain ⟨Nc, Nr, r1, r2, r3, r4, r5, r6⟩ := remCR HL (RR_t HL h 0)
      obtain ⟨hk, hkL, hM, hI, hR⟩ := r3.cur
      rw [r4] at hM hI
      have r4' : Nr.1 110 = Mr.1 110 := r4.trans (sI_fn (by decide))
      have t9 : t < 10 := by have := h.cur.2.2.2.1.v; omega
      have gq : Nc.2.2 1 3 = gR Nc 1 3 := rfl
      have o1 : f_X4_ofVisitor Nc (Nc.2.2 1 3) (nI t) 1 = (sI Mr 109 0 0).1 110 (57 + 5 * t + 1) := ofV (c := 1) hk hM t9 (by decide)
      have o2 : f_X10_ofOne Nr (nI t) 1 = some ((sI Mr 109 0 0).1 110 (57 + 5 * t + 1)) := by rw [← r4]; exact ofOneR (c := 1) t9 (by decide)
      have o3 : f_X4_setVisitor Nc (Nc.2.2 1 3) (nI t) 1 (nI k) = sI Nc (Nc.2.2 1 3 + 2) (t * 5 + 1) (nI k) := setVisitorC (c := 1) hk t9 (by decide)
      have o4 : (57 : Int32) + 5 * nI t + 1 = nI (57 + 5 * t + 1) := ix5 (b := 57) (c := 1)
      refine ⟨_, _, ⟨_, (sI Mr 109 0 0).1 110 (57 + 5 * t + 1), ?_, ?_, Or.inl ⟨rfl, ?_⟩⟩, RR_setV HL r3 (t := t) (c := 1) (x := nI k) t9 (by decide) (Or.inr (Or.inl ⟨rfl, isN_nI (by omega) (by decide)⟩))⟩
      · unfold f_X9_clean
        rw [n1, Option.bind_some, Sum.elim_inl, if_neg k2, if_pos (show nI k < 10 from k3), r1, Option.bind_some, Option.bind_some, ← gq, if_pos hk, o1, Option.bind_some, Option.bind_some, if_pos hk, o3]
        rfl
      · unfold f_X10_clean f_X10_clean_J28
        rw [n2, Option.bind_some, if_pos rfl, if_pos (show f_X10_isIn Mr (nI k) 0 9 = true from k4), Option.bind_some, t0, if_pos (by decide), r2, Option.bind_some, o2, Option.bind_some, o4, if_pos (ib807 (by omega)), sA110 (by omega)]
        rfl
      · show (sI Nr 110 _ _).1 109 0 = 0
        rw [sI_fn (by decide), r5]; exact t0
    · refine ⟨Mc, sI Mr 109 0 2, ⟨_, 0, ?_, ?_, Or.inr ⟨1, rfl, by rw [t0]; rfl, by rw [t0]; decide⟩⟩, RR_q HL h KpC.rf ⟨rfl, rfl⟩ KpR.t⟩
      · unfold f_X9_clean f_X9_clean_J15
        rw [n1, Option.bind_some, Sum.elim_inl]
        rcases k1 with k1 | ⟨k1, k3⟩
        · rw [if_pos k1]
        · rw [if_neg k1, if_neg (show ¬ x2 < 10 from k3)]
      · unfold f_X10_clean f_X10_clean_J28
        rw [n2, Option.bind_some, if_pos rfl, if_neg (show ¬ f_X10_isIn Mr x2 0 9 = true from by rw [show f_X10_isIn Mr x2 0 9 = false from k2]; decide), Option.bind_some, t0, if_neg (by decide)]
  · refine ⟨Mc, sI Mr 109 0 1, ⟨_, 0, ?_, ?_, Or.inr ⟨2, rfl, by rw [t0]; rfl, by rw [t0]; decide⟩⟩, RR_q HL h KpC.rf ⟨rfl, rfl⟩ KpR.t⟩
    · unfold f_X9_clean
      rw [n1, Option.bind_some, Sum.elim_inr]
    · unfold f_X10_clean f_X10_clean_J28
      rw [n2, Option.bind_some, if_neg (by decide), Option.bind_some, t0, if_neg (by decide)]
end SET
