/-! show, mark; the first that is found; move -/
section SET2
variable {LR : Mm → Nat → (Nat → Int32) → Prop} {LK : (Nat → Int32) → Nat → Nat → Int32 → Int32} {n : Nat} {M N Mc Mr Nc Nr : Mm} {q L B a d c : Nat} {m m2 : Nat → Int32} {x x1 x2 x3 x4 x5 : Int32}
theorem isN1 (h : isN x 1) : x = nI 0 ∨ x = nI 1 := by
  obtain ⟨h1, h2⟩ := h
  generalize x.toNatClampNeg = z at h1 h2
  have : z = 0 ∨ z = 1 := by omega
  rcases this with rfl | rfl
  · exact Or.inl h1
  · exact Or.inr h1
theorem nb_01 (x : Int32) : nb x = nI 0 ∨ nb x = nI 1 := by
  unfold nb
  by_cases h : x = 0
  · rw [if_pos h]; exact Or.inl rfl
  · rw [if_neg h]; exact Or.inr rfl
theorem s_10 (HL : LSpec LR LK) (h : RR LR n Mc Mr) : ∃ Nc Nr, so_10 x1 x2 x3 x4 x5 Mc Mr Nc Nr ∧ RR LR (n + 1) Nc Nr := by
  rcases needT h x1 with ⟨t, t1, rfl, n1, n2⟩ | ⟨n1, n2⟩
  · obtain ⟨Nc, Nr, r1, r2, r3, r4, r5, r6⟩ := remCR HL (RR_t HL h 0)
    obtain ⟨hk, hkL, hM, hI, hR⟩ := r3.cur
    rw [r4] at hM hI
    have t9 : t < 9 := by have := h.cur.2.2.2.1.t; omega
    have gq : Nc.2.2 1 3 = gR Nc 1 3 := rfl
    have e110 : (sI Mr 109 0 0).1 110 = Mr.1 110 := sI_fn (by decide)
    rw [e110] at hM hI
    have hS : isN (Mr.1 110 (12 + 5 * t + 3)) 1 := (hI.2.2.2.2.2.2.1 t t1).2.2.1
    have o1 : f_X4_ofThing Nc (Nc.2.2 1 3) (nI t) 3 = Mr.1 110 (12 + 5 * t + 3) := ofT (c := 3) hk hM t9 (by decide)
    have o2 : f_X10_of Nr (nI t) 3 = some (Mr.1 110 (12 + 5 * t + 3)) := by rw [← e110, ← r4]; exact ofR (c := 3) t9 (by decide)
    have o3 : ∀ y, f_X4_setThing Nc (Nc.2.2 1 3) (nI t) 3 y = sI Nc (Nc.2.2 1 3 + 1) (t * 5 + 3) y := fun y => setThingC (c := 3) hk t9 (by decide)
    have o4 : (12 : Int32) + 5 * nI t + 3 = nI (12 + 5 * t + 3) := ix5 (b := 12) (c := 3)
    have z0 : ∀ y k, gI (sI Nr 110 k y) 109 0 = 0 := fun y k => by
      show (sI Nr 110 _ _).1 109 0 = 0
      rw [sI_fn (by decide), r5]; exact t0
    have c1 : ∀ b : Int32, f_X9_show Mc (nI t) b = if b = 0 then f_X9_show_J18 Nc (nI t) 0 else f_X9_show_J18 Nc (nI t) 1 := fun b => by
      unfold f_X9_show
      rw [n1, Option.bind_some, Sum.elim_inl, r1, Option.bind_some]
    have c2 : ∀ b : Int32, f_X10_show Mr (nI t) b = if Mr.1 110 (12 + 5 * t + 3) = 1 then f_X10_show_J45 Nr (nI t) b 1 else f_X10_show_J45 Nr (nI t) b 0 := fun b => by
      unfold f_X10_show f_X10_show_J14
      rw [n2, Option.bind_some, if_pos rfl, Option.bind_some, t0, if_pos (by decide), r2, Option.bind_some, o2, Option.bind_some]
    have c3 : ∀ y : Int32, f_X9_show_J18 Nc (nI t) y = if Mr.1 110 (12 + 5 * t + 3) = y then some (.inl (false, sI Nc (Nc.2.2 1 3 + 1) (t * 5 + 3) y)) else some (.inl (true, sI Nc (Nc.2.2 1 3 + 1) (t * 5 + 3) y)) := fun y => by
      unfold f_X9_show_J18 f_X9_show_J37
      rw [Option.bind_some, ← gq, if_pos hk, o1]
      simp only [Option.bind_some, if_pos hk, o3]
      rfl
    have c4 : ∀ v2 v3 y : Int32, f_X10_show_J67 Nr v2 v3 y (12 + 5 * nI t + 3) = if v3 = v2 then some (false, sI Nr 110 (12 + 5 * t + 3) y) else some (true, sI Nr 110 (12 + 5 * t + 3) y) := fun v2 v3 y => by
      unfold f_X10_show_J67
      rw [o4, if_pos (ib807 (by omega)), sA110 (by omega), Option.bind_some]
    have fin : ∀ y : Int32, isN y 1 → RR LR (n + 1) (sI Nc (Nc.2.2 1 3 + 1) (t * 5 + 3) y) (sI Nr 110 (12 + 5 * t + 3) y) := fun y hy => RR_setT HL r3 t9 (by decide) (Or.inr (Or.inr (Or.inl ⟨rfl, hy⟩)))
    have hb : nb x2 = nI 0 ∨ nb x2 = nI 1 := nb_01 x2
    generalize hbd : nb x2 = b at hb
    have c5 : ∀ v2 y : Int32, f_X10_show_J45 Nr (nI t) v2 y = if v2 = 0 then (if y = v2 then some (false, sI Nr 110 (12 + 5 * t + 3) 0) else some (true, sI Nr 110 (12 + 5 * t + 3) 0)) else (if y = v2 then some (false, sI Nr 110 (12 + 5 * t + 3) 1) else some (true, sI Nr 110 (12 + 5 * t + 3) 1)) := fun v2 y => by
      unfold f_X10_show_J45
      rw [c4, c4]
    generalize hs0 : Mr.1 110 (12 + 5 * t + 3) = s at hS c2 c3
    have hs := isN1 hS
    have cc : f_X9_show Mc (nI t) b = if s = b then some (.inl (false, sI Nc (Nc.2.2 1 3 + 1) (t * 5 + 3) b)) else some (.inl (true, sI Nc (Nc.2.2 1 3 + 1) (t * 5 + 3) b)) := by
      rw [c1, c3, c3]
      rcases hb with rfl | rfl <;> rfl
    have cr : f_X10_show Mr (nI t) b = if s = b then some (false, sI Nr 110 (12 + 5 * t + 3) b) else some (true, sI Nr 110 (12 + 5 * t + 3) b) := by
      rw [c2, c5, c5]
      rcases hb with rfl | rfl <;> rcases hs with rfl | rfl <;> rfl
    have hbN : isN b 1 := by rcases hb with rfl | rfl <;> exact isN_nI (by decide) (by decide)
    by_cases e : s = b
    · exact ⟨_, _, ⟨_, false, by rw [hbd, cc, if_pos e], by rw [hbd, cr, if_pos e], Or.inl ⟨rfl, z0 _ _⟩⟩, fin b hbN⟩
    · exact ⟨_, _, ⟨_, true, by rw [hbd, cc, if_neg e], by rw [hbd, cr, if_neg e], Or.inl ⟨rfl, z0 _ _⟩⟩, fin b hbN⟩
  · refine ⟨Mc, sI Mr 109 0 1, ⟨_, false, ?_, ?_, Or.inr ⟨2, rfl, by rw [t0]; rfl, by rw [t0]; decide⟩⟩, RR_q HL h KpC.rf ⟨rfl, rfl⟩ KpR.t⟩
    · unfold f_X9_show
      rw [n1, Option.bind_some, Sum.elim_inr]
    · unfold f_X10_show f_X10_show_J14
      rw [n2, Option.bind_some, if_neg (by decide), Option.bind_some, t0, if_neg (by decide)]
/-- the first number that has it -/
def fnd (p : Nat → Bool) (n : Nat) : Option Nat := iter (fun t b => if b.isSome = true then b else if p t = true then some t else none) n none
theorem fnd_succ {p : Nat → Bool} {n : Nat} : fnd p (n + 1) = if (fnd p n).isSome = true then fnd p n else if p n = true then some n else none := rfl
theorem fnd_ok {p : Nat → Bool} : ∀ {n t : Nat}, fnd p n = some t → t < n ∧ p t = true := by
  intro n
  induction n with
  | zero => intro t h; cases h
  | succ n ih =>
    intro t h
    rw [fnd_succ] at h
    by_cases c : (fnd p n).isSome = true
    · rw [if_pos c] at h
      have := ih h
      exact ⟨by omega, this.2⟩
    · rw [if_neg c] at h
      by_cases c2 : p n = true
      · rw [if_pos c2] at h; cases h; exact ⟨by omega, c2⟩
      · rw [if_neg c2] at h; cases h
theorem fnd_cg {p r : Nat → Bool} {n : Nat} (h : ∀ i, i < n → p i = r i) : fnd p n = fnd r n := iter_cg (fun i s hi => by rw [h i hi])
theorem lpF {ρ : Type} {f : Int32 → Option (Int32 ⊕ (ρ ⊕ Unit))} (p : Nat → Bool) (g : Nat → ρ) (n : Nat) (hn : n < 10000) (hs : ∀ i, i < n → p i = false → f (nI i) = some (.inl (nI (i + 1)))) (hx : ∀ i, i < n → p i = true → f (nI i) = some (.inr (.inl (g i)))) (he : f (nI n) = some (.inr (.inr ()))) : loop FU f (nI 0) = some (match fnd p n with | none => .inr () | some t => .inl (g t)) := by
  suffices hh : ∀ k i, n - i < k → i ≤ n → fnd p i = none → loop k f (nI i) = some (match fnd p n with | none => .inr () | some t => .inl (g t)) from hh FU 0 (by show n - 0 < 10000; omega) (by omega) rfl
  intro k
  induction k with
  | zero => intro i h; omega
  | succ k ih =>
    intro i h1 h2 h3
    by_cases e : i = n
    · subst e
      rw [loop, he, h3]
      rfl
    · cases hp : p i with
      | false =>
        rw [loop, hs i (by omega) hp]
        exact ih (i + 1) (by omega) (by omega) (by rw [fnd_succ, h3, hp]; rfl)
      | true =>
        rw [loop, hx i (by omega) hp]
        have : ∀ j, i < j → j ≤ n → fnd p j = some i := by
          intro j
          induction j with
          | zero => intro h; omega
          | succ j ihj =>
            intro h4 h5
            by_cases e2 : i = j
            · subst e2; rw [fnd_succ, h3, hp]; rfl
            · rw [fnd_succ, ihj (by omega) (by omega)]; rfl
        rw [this n (by omega) (Nat.le_refl _)]
        rfl
end SET2
