/-! move, trade -/
section SET4
variable {LR : Mm → Nat → (Nat → Int32) → Prop} {LK : (Nat → Int32) → Nat → Nat → Int32 → Int32} {n : Nat} {M N Mc Mr Nc Nr : Mm} {q L B a d c : Nat} {m m2 : Nat → Int32} {x x1 x2 x3 x4 x5 : Int32}
theorem s_8 (HL : LSpec LR LK) (h : RR LR n Mc Mr) : ∃ Nc Nr, so_8 x1 x2 x3 x4 x5 Mc Mr Nc Nr ∧ RR LR (n + 1) Nc Nr := by
  rcases needT h x1 with ⟨t, t1, rfl, n1, n2⟩ | ⟨n1, n2⟩
  · rcases rngE (M := Mr) 20 (by decide) x2 with ⟨k, k1, rfl, k2, k3, k4⟩ | ⟨k1, k2⟩
    · obtain ⟨Nc, Nr, r1, r2, r3, r4, r5, r6⟩ := remCR HL (RR_t HL h 0)
      obtain ⟨hk, hkL, hM, hI, hR⟩ := r3.cur
      rw [r4] at hM hI
      have t9 : t < 9 := by have := h.cur.2.2.2.1.t; omega
      have gq : Nc.2.2 1 3 = gR Nc 1 3 := rfl
      have e110 : (sI Mr 109 0 0).1 110 = Mr.1 110 := sI_fn (by decide)
      rw [e110] at hM hI
      have e110' : Nr.1 110 = Mr.1 110 := r4.trans e110
      have aC := atCellC hk hM hI (nI k)
      have aR := atCellR e110' hI (nI k)
      have hc0 : f_X9_needCell Mc (nI k) = some (.inl Mc) := by
        unfold f_X9_needCell
        rw [if_neg k2, if_pos (show nI k < 20 from k3)]
      have o4 : ∀ u, (12 : Int32) + 5 * nI u + 0 = nI (12 + 5 * u + 0) := fun u => ix5 (b := 12) (c := 0)
      have j52 : ∀ (K : Mm) (v3 : Int32), K.2.2 1 3 = Nc.2.2 1 3 → f_X9_move_J52 K (nI t) (nI k) v3 = some (.inl (v3, sI K (Nc.2.2 1 3 + 1) (t * 5 + 0) (nI k))) := fun K v3 hK => by
        unfold f_X9_move_J52
        rw [Option.bind_some, show gR K 1 3 = Nc.2.2 1 3 from hK, if_pos hk, show f_X4_setThing K (Nc.2.2 1 3) (nI t) 0 (nI k) = sI K (Nc.2.2 1 3 + 1) (t * 5 + 0) (nI k) from setThingC (c := 0) hk t9 (by decide), Option.bind_some]
      have j77 : ∀ (K : Mm) (v3 : Int32), f_X10_move_J77 K (nI t) (nI k) v3 = some (v3, sI K 110 (12 + 5 * t + 0) (nI k)) := fun K v3 => by
        unfold f_X10_move_J77
        rw [o4, if_pos (ib807 (by omega)), sA110 (by omega), Option.bind_some]
      have cc : ∀ r : Int32, oI (atCell (Mr.1 110) (nI k)) = r → f_X9_move Mc (nI t) (nI k) = if r = nI t then some (.inl (-1, Nc)) else if r = -1 then f_X9_move_J52 Nc (nI t) (nI k) r else f_X9_move_J52 (f_X4_setThing Nc (Nc.2.2 1 3) r 0 (f_X4_ofThing Nc (Nc.2.2 1 3) (nI t) 0)) (nI t) (nI k) r := fun r hr => by
        unfold f_X9_move
        rw [n1, Option.bind_some, Sum.elim_inl, hc0, Option.bind_some, Sum.elim_inl, r1, Option.bind_some, Option.bind_some, ← gq, if_pos hk, aC, hr, Option.bind_some, Option.bind_some, if_pos hk, Option.bind_some, if_pos hk, Option.bind_some]
      have cr : ∀ r : Int32, oI (atCell (Mr.1 110) (nI k)) = r → f_X10_move Mr (nI t) (nI k) = if r = nI t then some (-1, Nr) else if r = -1 then f_X10_move_J77 Nr (nI t) (nI k) r else ((f_X10_of Nr (nI t) 0).bind (fun r6 => if ibs ((12 + (5 * r)) + 0) 807 = true then (some (sA Nr 110 ((12 + (5 * r)) + 0) r6)).bind (fun M7 => f_X10_move_J77 M7 (nI t) (nI k) r) else none)) := fun r hr => by
        unfold f_X10_move f_X10_move_J24
        rw [n2, Option.bind_some, if_pos rfl, if_pos (show f_X10_isIn Mr (nI k) 0 19 = true from k4), Option.bind_some, t0, if_pos (by decide), r2, Option.bind_some, aR, hr, Option.bind_some]
      have zr : gI Nr 109 0 = 0 := r5.trans t0
      have fin : RR LR (n + 1) (sI Nc (Nc.2.2 1 3 + 1) (t * 5 + 0) (nI k)) (sI Nr 110 (12 + 5 * t + 0) (nI k)) := RR_setT HL r3 t9 (by decide) (Or.inl ⟨rfl, isN_nI (by omega) (by decide)⟩)
      cases hu : atCell (Mr.1 110) (nI k) with
      | none =>
        have w : ¬ oI none = nI t := by rw [oI, nI_m1_ne (by omega)]; exact not_false
        refine ⟨_, _, ⟨_, -1, by rw [cc _ rfl, hu, if_neg w, if_pos (show oI none = -1 from rfl), j52 Nc _ rfl]; rfl, by rw [cr _ rfl, hu, if_neg w, if_pos (show oI none = -1 from rfl), j77]; rfl, Or.inl ⟨rfl, ?_⟩⟩, fin⟩
        show (sI Nr 110 _ _).1 109 0 = 0
        rw [sI_fn (by decide)]; exact zr
      | some u =>
        have hu9 : u < 9 := by have := (fnd_ok hu).1; have := h.cur.2.2.2.1.t; omega
        by_cases e : u = t
        · subst e
          exact ⟨Nc, Nr, ⟨_, -1, by rw [cc _ rfl, hu, if_pos (show oI (some u) = nI u from rfl)], by rw [cr _ rfl, hu, if_pos (show oI (some u) = nI u from rfl)], Or.inl ⟨rfl, zr⟩⟩, RR_succ r3⟩
        · have w : ¬ oI (some u) = nI t := by rw [oI, nI_eq (by omega) (by omega)]; exact e
          have w2 : ¬ oI (some u) = -1 := by rw [oI, nI_ne_m1 (by omega)]; exact not_false
          have hcell : isN (Mr.1 110 (12 + 5 * t + 0)) 19 := (hI.2.2.2.2.2.2.1 t t1).1
          have o1 : f_X4_ofThing Nc (Nc.2.2 1 3) (nI t) 0 = Mr.1 110 (12 + 5 * t + 0) := ofT (c := 0) hk hM t9 (by decide)
          have o2 : f_X10_of Nr (nI t) 0 = some (Mr.1 110 (12 + 5 * t + 0)) := by rw [← e110']; exact ofR (c := 0) t9 (by decide)
          have o3 : ∀ y, f_X4_setThing Nc (Nc.2.2 1 3) (nI u) 0 y = sI Nc (Nc.2.2 1 3 + 1) (u * 5 + 0) y := fun y => setThingC (c := 0) hk hu9 (by decide)
          have mid := RR_setT0 HL r3 (t := u) (c := 0) (x := Mr.1 110 (12 + 5 * t + 0)) hu9 (by decide) (Or.inl ⟨rfl, hcell⟩)
          have fin2 := RR_setT HL mid (t := t) (c := 0) (x := nI k) t9 (by decide) (Or.inl ⟨rfl, isN_nI (by omega) (by decide)⟩)
          refine ⟨_, _, ⟨_, nI u, by rw [cc _ rfl, hu, if_neg w, if_neg w2, o1, oI, o3]; exact j52 _ _ rfl, by rw [cr _ rfl, hu, if_neg w, if_neg w2, o2, Option.bind_some, oI, o4, if_pos (ib807 (by omega)), sA110 (by omega), Option.bind_some, j77], Or.inl ⟨rfl, ?_⟩⟩, fin2⟩
          show (sI (sI Nr 110 _ _) 110 _ _).1 109 0 = 0
          rw [sI_fn (by decide), sI_fn (by decide)]; exact zr
    · refine ⟨Mc, sI Mr 109 0 1, ⟨_, 0, ?_, ?_, Or.inr ⟨2, rfl, by rw [t0]; rfl, by rw [t0]; decide⟩⟩, RR_q HL h KpC.rf ⟨rfl, rfl⟩ KpR.t⟩
      · unfold f_X9_move f_X9_needCell f_X9_needCell_J10
        rw [n1, Option.bind_some, Sum.elim_inl]
        rcases k1 with k1 | ⟨k1, k3⟩
        · rw [if_pos k1]; rfl
        · rw [if_neg k1, if_neg (show ¬ x2 < 20 from k3)]; rfl
      · unfold f_X10_move f_X10_move_J19 f_X10_move_J24
        rw [n2, Option.bind_some, if_pos rfl, if_neg (show ¬ f_X10_isIn Mr x2 0 19 = true from by rw [show f_X10_isIn Mr x2 0 19 = false from k2]; decide), Option.bind_some, t0, if_neg (by decide)]
  · refine ⟨Mc, sI Mr 109 0 1, ⟨_, 0, ?_, ?_, Or.inr ⟨2, rfl, by rw [t0]; rfl, by rw [t0]; decide⟩⟩, RR_q HL h KpC.rf ⟨rfl, rfl⟩ KpR.t⟩
    · unfold f_X9_move
      rw [n1, Option.bind_some, Sum.elim_inr]
    · unfold f_X10_move f_X10_move_J19 f_X10_move_J24
      rw [n2, Option.bind_some, if_neg (by decide), Option.bind_some, t0, if_neg (by decide)]
end SET4
