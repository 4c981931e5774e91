/-! what a call asks for; a day asked for -/
section NEED
variable {LR : Mm → Nat → (Nat → Int32) → Prop} {LK : (Nat → Int32) → Nat → Nat → Int32 → Int32} {n : Nat} {M Mc Mr Nc Nr : Mm} {q L B : Nat} {m : Nat → Int32} {x x1 x2 x3 x4 x5 : Int32}
theorem RR.cur (h : RR LR n Mc Mr) : kd (Mc.2.2 1 3) = 4 ∧ kd (Mc.2.2 1 5) = 2 ∧ MR Mc (Mc.2.2 1 3) (Mr.1 110) ∧ Inv (Mr.1 110) (500 * n) ∧ LR Mc (Mc.2.2 1 5) (Mr.1 110) := ⟨h.1.1, h.2.1.1, h.2.2.1.1, h.2.2.1.2.1, h.2.2.1.2.2⟩
theorem rngE (T : Nat) (hT : T < 2 ^ 31) (x : Int32) : (∃ t, t < T ∧ x = nI t ∧ ¬ x < 0 ∧ x < nI T ∧ f_X10_isIn M x 0 (nI T - 1) = true) ∨ ((x < 0 ∨ (¬ x < 0 ∧ ¬ x < nI T)) ∧ f_X10_isIn M x 0 (nI T - 1) = false) := by
  by_cases c1 : x < 0
  · exact Or.inr ⟨Or.inl c1, by unfold f_X10_isIn; rw [if_pos c1]⟩
  · obtain ⟨k, hk, rfl⟩ := nI_of c1
    by_cases c2 : k < T
    · refine Or.inl ⟨k, c2, rfl, c1, by rw [nI_ltI hk hT]; exact c2, ?_⟩
      unfold f_X10_isIn
      rw [if_neg c1, if_neg]
      rw [l_1, nI_subI (by omega), nI_ltI (by omega) hk]
      omega
    · refine Or.inr ⟨Or.inr ⟨c1, by rw [nI_ltI hk hT]; exact c2⟩, ?_⟩
      unfold f_X10_isIn
      rw [if_neg c1, if_pos]
      by_cases c3 : T = 0
      · subst c3
        have e : (nI 0 - 1 : Int32) = -1 := by decide
        rw [e, Int32.lt_iff_toInt_lt, nI_toInt hk]
        have e2 : ((-1 : Int32)).toInt = -1 := rfl
        omega
      · rw [l_1, nI_subI (by omega), nI_ltI (by omega) hk]
        omega
theorem rngI (T : Nat) (hT : T < 2 ^ 31) (x : Int32) : (∃ t, t ≤ T ∧ x = nI t ∧ ¬ x < 0 ∧ x ≤ nI T ∧ f_X10_isIn M x 0 (nI T) = true) ∨ ((x < 0 ∨ (¬ x < 0 ∧ ¬ x ≤ nI T)) ∧ f_X10_isIn M x 0 (nI T) = false) := by
  by_cases c1 : x < 0
  · exact Or.inr ⟨Or.inl c1, by unfold f_X10_isIn; rw [if_pos c1]⟩
  · obtain ⟨k, hk, rfl⟩ := nI_of c1
    by_cases c2 : k ≤ T
    · refine Or.inl ⟨k, c2, rfl, c1, by rw [nI_leI hk hT]; exact c2, ?_⟩
      unfold f_X10_isIn
      rw [if_neg c1, if_neg]
      rw [nI_ltI (by omega) hk]
      omega
    · refine Or.inr ⟨Or.inr ⟨c1, by rw [nI_leI hk hT]; exact c2⟩, ?_⟩
      unfold f_X10_isIn
      rw [if_neg c1, if_pos]
      rw [nI_ltI (by omega) hk]
      omega
theorem needT (h : RR LR n Mc Mr) (x : Int32) : (∃ t, t < tN (Mr.1 110) ∧ x = nI t ∧ f_X9_needThing Mc x = some (.inl Mc) ∧ f_X10_isThing Mr x = some true) ∨ (f_X9_needThing Mc x = some (.inr (2, Mc)) ∧ f_X10_isThing Mr x = some false) := by
  obtain ⟨hk, hkL, hM, hI, hR⟩ := h.cur
  obtain ⟨e3, hT⟩ := hI.t
  have c3 : gI Mc (Mc.2.2 1 3) 3 = nI (tN (Mr.1 110)) := hM.2.2.1.trans e3
  have r3 : gA Mr 110 3 = nI (tN (Mr.1 110)) := e3
  have ib : ibs (3 : Int32) 807 = true := by decide
  unfold f_X9_needThing f_X10_isThing f_X9_needThing_J15
  rw [Option.bind_some, show gR Mc 1 3 = Mc.2.2 1 3 from rfl, if_pos hk, c3, if_pos ib, r3]
  rcases rngE (M := Mr) (tN (Mr.1 110)) (by omega) x with ⟨t, t1, t2, t3, t4, t5⟩ | ⟨t1, t2⟩
  · exact Or.inl ⟨t, t1, t2, by rw [if_neg t3, if_pos t4], by rw [t5]⟩
  · refine Or.inr ⟨?_, by rw [t2]⟩
    rcases t1 with t1 | ⟨t1, t3⟩
    · rw [if_pos t1]
    · rw [if_neg t1, if_neg t3]
theorem needV (h : RR LR n Mc Mr) (x : Int32) : (∃ v, v < vN (Mr.1 110) ∧ x = nI v ∧ f_X9_needVisitor Mc x = some (.inl Mc) ∧ f_X10_isVisitor Mr x = some true) ∨ (f_X9_needVisitor Mc x = some (.inr (2, Mc)) ∧ f_X10_isVisitor Mr x = some false) := by
  obtain ⟨hk, hkL, hM, hI, hR⟩ := h.cur
  obtain ⟨e4, hV⟩ := hI.v
  have c4 : gI Mc (Mc.2.2 1 3) 4 = nI (vN (Mr.1 110)) := hM.2.2.2.1.trans e4
  have r4 : gA Mr 110 4 = nI (vN (Mr.1 110)) := e4
  have ib : ibs (4 : Int32) 807 = true := by decide
  unfold f_X9_needVisitor f_X10_isVisitor f_X9_needVisitor_J15
  rw [Option.bind_some, show gR Mc 1 3 = Mc.2.2 1 3 from rfl, if_pos hk, c4, if_pos ib, r4]
  rcases rngE (M := Mr) (vN (Mr.1 110)) (by omega) x with ⟨t, t1, t2, t3, t4, t5⟩ | ⟨t1, t2⟩
  · exact Or.inl ⟨t, t1, t2, by rw [if_neg t3, if_pos t4], by rw [t5]⟩
  · refine Or.inr ⟨?_, by rw [t2]⟩
    rcases t1 with t1 | ⟨t1, t3⟩
    · rw [if_pos t1]
    · rw [if_neg t1, if_neg t3]
theorem qdayC (HL : LSpec LR LK) (h : RR LR n Mc Mr) : Tr (f_X9_tomorrow Mc (Mc.2.2 1 3)) (fun r => r.1 = nI (S0 LK (Mr.1 110)).2.2.2 ∧ KpC Mc r.2 ∧ r.2.2.2 1 = Mc.2.2 1 ∧ r.2.2.2 3 = Mc.2.2 3 ∧ MR r.2 (Mc.2.2 1 3) (Mr.1 110) ∧ DayC LK (Mr.1 110) (S0 LK (Mr.1 110)) r.2) := by
  obtain ⟨hk, hkL, hM, hI, hR⟩ := h.cur
  have hq := md4 hk
  have hl := (lnL hkL).2.2.2.2.2
  obtain ⟨r, r1, r2, r3, r4⟩ := tomC HL hk hkL rfl hM hI hR
  refine ⟨r, r1, r2, fun i h1 h2 h3 h4 h5 => (r3 i (by simp; omega)).1, (r3 1 (by simp <;> omega)).2.2, (r3 3 (by simp <;> omega)).2.2, hM.fr (fun j h1 h2 => (r3 j (by simp; omega)).1), r4⟩
theorem qdayR (HL : LSpec LR LK) (h : RR LR n Mc Mr) (x : Int32) : Tr (f_X10_tomorrow (sI Mr 109 0 x)) (fun N => KpR Mr N ∧ N.1 109 0 = x ∧ N.1 110 = Mr.1 110 ∧ DayR LK (Mr.1 110) (S0 LK (Mr.1 110)) N) := by
  obtain ⟨hk, hkL, hM, hI, hR⟩ := h.cur
  have e : (sI Mr 109 0 x).1 110 = Mr.1 110 := sI_fn (by decide)
  obtain ⟨N, n1, n2, n3, n4⟩ := tomR (M := sI Mr 109 0 x) (m := Mr.1 110) HL e hI hR
  have e0 : (sI Mr 109 0 x).1 109 0 = x := by rw [sI_at, if_pos ⟨rfl, rfl⟩]
  exact ⟨N, n1, KpR.t.tr (KpR.of2 n2 (n3.trans e.symm) (by simp) (by simp) (by simp)), (n2.2 0 (by simp)).trans e0, n3, n4⟩
theorem S0_b (hI : Inv m B) : ∀ v t, (S0 LK m).1 v = some t → t < 2 ^ 31 := fun v t h => by
  have h1 := S0_inv.1 v t h
  have h2 := hI.t
  omega
theorem S0_set (hI : Inv m B) (p : Option Nat → Bool) (hp : p none = false) : bset (fun v => p ((S0 LK m).1 v)) 10 = bset (fun v => p ((S0 LK m).1 v)) (vN m) := by
  have hV := hI.v
  refine bset_eq (by omega) (by omega) (fun i hi => ?_)
  cases hx : (S0 LK m).1 i with
  | none => simp [hp]
  | some t =>
    have h1 := S0_inv.1 i t hx
    have a : i < 10 := by omega
    simp [a, h1.1]
theorem s_15 (HL : LSpec LR LK) (h : RR LR n Mc Mr) : ∃ Nc Nr, so_15 x1 x2 x3 x4 x5 Mc Mr Nc Nr ∧ RR LR (n + 1) Nc Nr := by
  obtain ⟨hk, hkL, hM, hI, hR⟩ := h.cur
  obtain ⟨r, c1, c2, c3, c4, c5, c6, c7⟩ := qdayC HL h
  obtain ⟨N, d1, d2, d3, d4, d5⟩ := qdayR HL h 0
  refine ⟨r.2, N, ⟨bset (fun v => ((S0 LK (Mr.1 110)).1 v).isSome) 10, ?_, ?_⟩, RR_q HL h c3 ⟨c4, c5⟩ d2⟩
  · unfold f_X9_had
    rw [Option.bind_some, show gR Mc 1 3 = Mc.2.2 1 3 from rfl, if_pos hk, c1, Option.bind_some, hadAtAllC c7.2.2 (S0_b hI)]
    rfl
  · unfold f_X10_had
    rw [Option.bind_some, d1, Option.bind_some, hadNowR d4 hI d5.2.1 (S0_b hI), S0_set hI Option.isSome rfl]
    rfl
end NEED
