/-! mark, move -/
section SET3
variable {LR : Mm → Nat → (Nat → Int32) → Prop} {LK : (Nat → Int32) → Nat → Nat → Int32 → Int32} {n : Nat} {M N Mc Mr Nc Nr : Mm} {q L B a d c : Nat} {m m2 : Nat → Int32} {x x1 x2 x3 x4 x5 : Int32}
theorem mk_ok : ∀ a, a < 64 → ∀ b, b < 6 → isN (nI a &&& ((1 <<< (nI b &&& 31)) ^^^ (-1))) 63 ∧ isN (nI a ||| (1 <<< (nI b &&& 31))) 63 := by
  unfold isN
  decide +kernel
theorem s_12 (HL : LSpec LR LK) (h : RR LR n Mc Mr) : ∃ Nc Nr, so_12 x1 x2 x3 x4 x5 Mc Mr Nc Nr ∧ RR LR (n + 1) Nc Nr := by
  rcases needV h x1 with ⟨t, t1, rfl, n1, n2⟩ | ⟨n1, n2⟩
  · rcases rngE (M := Mr) 6 (by decide) x2 with ⟨k, k1, rfl, k2, k3, k4⟩ | ⟨k1, k2⟩
    · obtain ⟨Nc, Nr, r1, r2, r3, r4, r5, r6⟩ := remCR HL (RR_t HL h 0)
      obtain ⟨hk, hkL, hM, hI, hR⟩ := r3.cur
      rw [r4] at hM hI
      have t9 : t < 10 := by have := h.cur.2.2.2.1.v; omega
      have gq : Nc.2.2 1 3 = gR Nc 1 3 := rfl
      have e110 : (sI Mr 109 0 0).1 110 = Mr.1 110 := sI_fn (by decide)
      rw [e110] at hM hI
      have hS : isN (Mr.1 110 (57 + 5 * t + 4)) 63 := (hI.2.2.2.2.2.2.2.1 t t1).2
      have o1 : f_X4_ofVisitor Nc (Nc.2.2 1 3) (nI t) 4 = Mr.1 110 (57 + 5 * t + 4) := ofV (c := 4) hk hM t9 (by decide)
      have o2 : f_X10_ofOne Nr (nI t) 4 = some (Mr.1 110 (57 + 5 * t + 4)) := by rw [← e110, ← r4]; exact ofOneR (c := 4) t9 (by decide)
      have o3 : ∀ y, f_X4_setVisitor Nc (Nc.2.2 1 3) (nI t) 4 y = sI Nc (Nc.2.2 1 3 + 2) (t * 5 + 4) y := fun y => setVisitorC (c := 4) hk t9 (by decide)
      have o4 : (57 : Int32) + 5 * nI t + 4 = nI (57 + 5 * t + 4) := ix5 (b := 57) (c := 4)
      have o5 : ∀ y, f_X10_ofOne (sI Nr 110 (57 + 5 * t + 4) y) (nI t) 4 = some y := fun y => by
        refine (ofOneR (c := 4) t9 (by decide)).trans ?_
        rw [sI_at, if_pos ⟨rfl, rfl⟩]
      have z0 : ∀ y k, gI (sI Nr 110 k y) 109 0 = 0 := fun y k => by
        show (sI Nr 110 _ _).1 109 0 = 0
        rw [sI_fn (by decide), r5]; exact t0
      have fin : ∀ y : Int32, isN y 63 → RR LR (n + 1) (sI Nc (Nc.2.2 1 3 + 2) (t * 5 + 4) y) (sI Nr 110 (57 + 5 * t + 4) y) := fun y hy => RR_setV HL r3 t9 (by decide) (Or.inr (Or.inr (Or.inr (Or.inr ⟨rfl, hy⟩))))
      have c3 : ∀ s y : Int32, f_X9_mark_J61 Nc (nI t) s y = if y = s then some (.inl (false, sI Nc (Nc.2.2 1 3 + 2) (t * 5 + 4) y)) else some (.inl (true, sI Nc (Nc.2.2 1 3 + 2) (t * 5 + 4) y)) := fun s y => by
        unfold f_X9_mark_J61
        rw [Option.bind_some, ← gq, if_pos hk, o3, Option.bind_some]
      have c4 : ∀ s y : Int32, f_X10_mark_J80 Nr (nI t) s y (57 + 5 * nI t + 4) = if s = y then some (false, sI Nr 110 (57 + 5 * t + 4) y) else some (true, sI Nr 110 (57 + 5 * t + 4) y) := fun s y => by
        unfold f_X10_mark_J80
        rw [o4, if_pos (ib807 (by omega)), sA110 (by omega), Option.bind_some, o5, Option.bind_some]
      generalize hs0 : Mr.1 110 (57 + 5 * t + 4) = s at hS o1 o2
      obtain ⟨sa, hsa, hsb⟩ : ∃ sa, s = nI sa ∧ sa < 64 := ⟨_, hS.1, by have := hS.2; omega⟩
      have hmk := mk_ok sa hsb k k1
      rw [← hsa] at hmk
      have cc : f_X9_mark Mc (nI t) (nI k) (nb x3) = if nb x3 = 0 then f_X9_mark_J61 Nc (nI t) s (s &&& ((1 <<< (nI k &&& 31)) ^^^ (-1))) else f_X9_mark_J61 Nc (nI t) s (s ||| (1 <<< (nI k &&& 31))) := by
        unfold f_X9_mark
        rw [n1, Option.bind_some, Sum.elim_inl, if_neg k2, if_pos (show nI k < 6 from k3), r1, Option.bind_some, Option.bind_some, ← gq, if_pos hk, o1, Option.bind_some]
      have cr : f_X10_mark Mr (nI t) (nI k) (nb x3) = if nb x3 = 0 then f_X10_mark_J80 Nr (nI t) s (s &&& ((1 <<< (nI k &&& 31)) ^^^ (-1))) (57 + 5 * nI t + 4) else f_X10_mark_J80 Nr (nI t) s (s ||| (1 <<< (nI k &&& 31))) (57 + 5 * nI t + 4) := by
        unfold f_X10_mark f_X10_mark_J23
        rw [n2, Option.bind_some, if_pos rfl, if_pos (show f_X10_isIn Mr (nI k) 0 5 = true from k4), Option.bind_some, t0, if_pos (by decide), r2, Option.bind_some, o2, Option.bind_some]
      have go : ∀ y : Int32, isN y 63 → f_X9_mark Mc (nI t) (nI k) (nb x3) = f_X9_mark_J61 Nc (nI t) s y → f_X10_mark Mr (nI t) (nI k) (nb x3) = f_X10_mark_J80 Nr (nI t) s y (57 + 5 * nI t + 4) → ∃ Nc Nr, so_12 (nI t) (nI k) x3 x4 x5 Mc Mr Nc Nr ∧ RR LR (n + 1) Nc Nr := fun y hy h1 h2 => by
        by_cases e : y = s
        · exact ⟨_, _, ⟨_, false, by rw [h1, c3, if_pos e], by rw [h2, c4, if_pos e.symm], Or.inl ⟨rfl, z0 _ _⟩⟩, fin y hy⟩
        · exact ⟨_, _, ⟨_, true, by rw [h1, c3, if_neg e], by rw [h2, c4, if_neg (fun h => e h.symm)], Or.inl ⟨rfl, z0 _ _⟩⟩, fin y hy⟩
      by_cases hb : nb x3 = 0
      · exact go _ hmk.1 (by rw [cc, if_pos hb]) (by rw [cr, if_pos hb])
      · exact go _ hmk.2 (by rw [cc, if_neg hb]) (by rw [cr, if_neg hb])
    · refine ⟨Mc, sI Mr 109 0 1, ⟨_, false, ?_, ?_, Or.inr ⟨2, rfl, by rw [t0]; rfl, by rw [t0]; decide⟩⟩, RR_q HL h KpC.rf ⟨rfl, rfl⟩ KpR.t⟩
      · unfold f_X9_mark f_X9_mark_J15
        rw [n1, Option.bind_some, Sum.elim_inl]
        rcases k1 with k1 | ⟨k1, k3⟩
        · rw [if_pos k1]
        · rw [if_neg k1, if_neg (show ¬ x2 < 6 from k3)]
      · unfold f_X10_mark f_X10_mark_J18 f_X10_mark_J23
        rw [n2, Option.bind_some, if_pos rfl, if_neg (show ¬ f_X10_isIn Mr x2 0 5 = true from by rw [show f_X10_isIn Mr x2 0 5 = false from k2]; decide), Option.bind_some, t0, if_neg (by decide)]
  · refine ⟨Mc, sI Mr 109 0 1, ⟨_, false, ?_, ?_, Or.inr ⟨2, rfl, by rw [t0]; rfl, by rw [t0]; decide⟩⟩, RR_q HL h KpC.rf ⟨rfl, rfl⟩ KpR.t⟩
    · unfold f_X9_mark
      rw [n1, Option.bind_some, Sum.elim_inr]
    · unfold f_X10_mark f_X10_mark_J18 f_X10_mark_J23
      rw [n2, Option.bind_some, if_neg (by decide), Option.bind_some, t0, if_neg (by decide)]
/-- the thing at a cell -/
def atCell (m : Nat → Int32) (x : Int32) : Option Nat := fnd (fun t => decide (m (12 + 5 * t + 0) = x)) (tN m)
theorem atCellC (hk : kd q = 4) (h : MR M q m) (hI : Inv m B) (x : Int32) : f_X4_thingAt M q x = some (oI (atCell m x)) := by
  obtain ⟨e3, hT⟩ := hI.t
  have g3 : M.1 q 3 = nI (tN m) := h.2.2.1.trans e3
  have g : ∀ i, i < tN m → t_X9_at M (q + 1) (nI i * 5 + 0) = m (12 + 5 * i + 0) := fun i hi => ofT (c := 0) hk h (show i < 9 by omega) (by decide)
  have := lpF (f := fun a_1 => f_X4_thingAt_L2 M q x a_1) (fun t => decide (m (12 + 5 * t + 0) = x)) (fun t => nI t) (tN m) (by omega) (fun i hi hp => by
    unfold f_X4_thingAt_L2
    have hp : ¬ m (12 + 5 * i + 0) = x := by simpa using hp
    rw [show gI M q 3 = nI (tN m) from g3, if_neg (by rw [nI_leI (by omega) (by omega)]; omega), g i hi, if_neg hp, l_1, nI_add]) (fun i hi hp => by
    unfold f_X4_thingAt_L2
    have hp : m (12 + 5 * i + 0) = x := by simpa using hp
    rw [show gI M q 3 = nI (tN m) from g3, if_neg (by rw [nI_leI (by omega) (by omega)]; omega), g i hi, if_pos hp]) (by
    unfold f_X4_thingAt_L2
    rw [show gI M q 3 = nI (tN m) from g3, if_pos (by rw [nI_leI (by omega) (by omega)]; omega)])
  unfold f_X4_thingAt
  rw [show ((0 : Int32)) = nI 0 from rfl, this]
  unfold atCell
  cases fnd (fun t => decide (m (12 + 5 * t + 0) = x)) (tN m) with
  | none => rfl
  | some t => rfl
theorem atCellR (hm : M.1 110 = m) (hI : Inv m B) (x : Int32) : f_X10_thingAt M x = some (oI (atCell m x)) := by
  obtain ⟨e3, hT⟩ := hI.t
  have g3 : gA M 110 3 = nI (tN m) := by rw [← hm] at e3 ⊢; exact e3
  have ib : ibs (3 : Int32) 807 = true := by decide
  have g : ∀ i, i < tN m → f_X10_of M (nI i) 0 = some (m (12 + 5 * i + 0)) := fun i hi => by rw [← hm]; exact ofR (c := 0) (show i < 9 by omega) (by decide)
  have := lpF (f := fun a_1 => f_X10_thingAt_L2 M x a_1) (fun t => decide (m (12 + 5 * t + 0) = x)) (fun t => nI t) (tN m) (by omega) (fun i hi hp => by
    unfold f_X10_thingAt_L2
    have hp : ¬ m (12 + 5 * i + 0) = x := by simpa using hp
    rw [if_pos ib, g3, if_neg (by rw [nI_leI (by omega) (by omega)]; omega), g i hi, Option.bind_some, if_neg hp, l_1, nI_add]) (fun i hi hp => by
    unfold f_X10_thingAt_L2
    have hp : m (12 + 5 * i + 0) = x := by simpa using hp
    rw [if_pos ib, g3, if_neg (by rw [nI_leI (by omega) (by omega)]; omega), g i hi, Option.bind_some, if_pos hp]) (by
    unfold f_X10_thingAt_L2
    rw [if_pos ib, g3, if_pos (by rw [nI_leI (by omega) (by omega)]; omega)])
  unfold f_X10_thingAt
  rw [show ((0 : Int32)) = nI 0 from rfl, this]
  unfold atCell
  cases fnd (fun t => decide (m (12 + 5 * t + 0) = x)) (tN m) with
  | none => rfl
  | some t => rfl
end SET3
