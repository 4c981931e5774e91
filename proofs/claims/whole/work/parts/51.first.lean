/-! first -/
section FIRST
variable {LR : Mm → Nat → (Nat → Int32) → Prop} {LK : (Nat → Int32) → Nat → Nat → Int32 → Int32} {n : Nat} {M N Mc Mr Nc Nr : Mm} {q L B a b c : Nat} {m m2 : Nat → Int32} {x x1 x2 x3 x4 x5 : Int32}
theorem bset_0 {p : Nat → Bool} {n : Nat} (hn : n ≤ 32) : (bset p n = 0) ↔ ∀ v, v < n → p v = false := by
  constructor
  · intro h v hv
    have h1 := bt_bset (p := p) hn (i := v) (by omega)
    rw [h, b_0] at h1
    have : decide (v < n) = true := by simpa using hv
    rw [this, Bool.true_and] at h1
    exact h1.symm
  · intro h
    refine b_ext (fun i hi => ?_)
    rw [bt_bset hn hi, b_0]
    by_cases e : i < n
    · rw [h i e, Bool.and_false]
    · have : decide (i < n) = false := by simpa using e
      rw [this, Bool.false_and]
theorem cntB_0 {p : Nat → Bool} : ∀ {n : Nat}, (cntB p n = 0) ↔ ∀ v, v < n → p v = false := by
  intro n
  induction n with
  | zero => exact ⟨fun _ v hv => absurd hv (Nat.not_lt_zero v), fun _ => rfl⟩
  | succ n ih =>
    rw [cntB_succ]
    by_cases h : p n = true
    · rw [if_pos h]
      exact ⟨fun e => by omega, fun e => by rw [e n (by omega)] at h; cases h⟩
    · have h2 : p n = false := by simpa using h
      rw [if_neg h, ih]
      exact ⟨fun e v hv => by
        by_cases e2 : v = n
        · rw [e2]; exact h2
        · exact e v (by omega), fun e v hv => e v (by omega)⟩
/-- whether nobody has it tomorrow -/
theorem nobC (hI : Inv m B) {t : Nat} : (bset (fun v => decide ((S0 LK m).1 v = some t)) 10 = 0) = ((S0 LK m).2.1 t = 0) := by
  apply propext
  rw [S0_set hI (fun o => decide (o = some t)) (by simp), bset_0 (by have := hI.v; omega), S0_more.1 t, cntB_0]
def fstT (LK : (Nat → Int32) → Nat → Nat → Int32 → Int32) (m : Nat → Int32) (i : Nat) : Option Nat := match atCell m (nI i) with
  | none => none
  | some t => if m (12 + 5 * t + 3) = 1 ∧ (S0 LK m).2.1 t = 0 then some t else none
theorem s_16 (HL : LSpec LR LK) (h : RR LR n Mc Mr) : ∃ Nc Nr, so_16 x1 x2 x3 x4 x5 Mc Mr Nc Nr ∧ RR LR (n + 1) Nc Nr := by
  obtain ⟨hk, hkL, hM, hI, hR⟩ := h.cur
  have hT := hI.t
  obtain ⟨r, u1, u2, u3, u4, u5, u6, u7, u8, u9⟩ := qdayC HL h
  obtain ⟨N, d1, d2, d3, d4, d5, d6, d7, d8⟩ := qdayR HL h 0
  have gq : gR r.2 1 3 = Mc.2.2 1 3 := by show r.2.2.2 1 3 = _; rw [u4]
  have lC := lpF (f := fun a_8 => f_X9_first_L11 r.2 a_8) (fun i => (fstT LK (Mr.1 110) i).isSome) (fun i => (oI (fstT LK (Mr.1 110) i), r.2)) 20 (by decide) (fun i hi hp => by
    have hp : (fstT LK (Mr.1 110) i).isSome = false := hp
    show f_X9_first_L11 r.2 (nI i) = _
    unfold f_X9_first_L11
    rw [if_neg (show ¬ (20 : Int32) ≤ nI i by rw [l_20, nI_leI (by omega) (by omega)]; omega), Option.bind_some, gq, if_pos hk, atCellC hk u6 hI, Option.bind_some]
    unfold fstT at hp
    cases hc : atCell (Mr.1 110) (nI i) with
    | none => rw [if_pos (show oI none = -1 from rfl), l_1, nI_add]
    | some t =>
      have ht := (fnd_ok hc).1
      rw [hc] at hp
      rw [if_neg (show ¬ oI (some t) = -1 from by rw [oI, nI_ne_m1 (by omega)]; exact not_false), Option.bind_some, if_pos hk, oI, show f_X4_ofThing r.2 (Mc.2.2 1 3) (nI t) 3 = (Mr.1 110) (12 + 5 * t + 3) from ofT (c := 3) hk u6 (by omega) (by decide)]
      by_cases c1 : (Mr.1 110) (12 + 5 * t + 3) = 1
      · rw [if_pos c1, hadByC u9 (S0_b hI) (by omega), Option.bind_some]
        by_cases c2 : (S0 LK (Mr.1 110)).2.1 t = 0
        · simp [c1, c2] at hp
        · rw [if_neg (by rw [nobC hI]; exact c2), l_1, nI_add]
      · rw [if_neg c1, l_1, nI_add]) (fun i hi hp => by
    have hp : (fstT LK (Mr.1 110) i).isSome = true := hp
    show f_X9_first_L11 r.2 (nI i) = _
    unfold f_X9_first_L11
    rw [if_neg (show ¬ (20 : Int32) ≤ nI i by rw [l_20, nI_leI (by omega) (by omega)]; omega), Option.bind_some, gq, if_pos hk, atCellC hk u6 hI, Option.bind_some]
    unfold fstT at hp ⊢
    cases hc : atCell (Mr.1 110) (nI i) with
    | none => rw [hc] at hp; cases hp
    | some t =>
      have ht := (fnd_ok hc).1
      rw [hc] at hp
      by_cases c3 : (Mr.1 110) (12 + 5 * t + 3) = 1 ∧ (S0 LK (Mr.1 110)).2.1 t = 0
      · rw [if_neg (show ¬ oI (some t) = -1 from by rw [oI, nI_ne_m1 (by omega)]; exact not_false), Option.bind_some, if_pos hk, oI, show f_X4_ofThing r.2 (Mc.2.2 1 3) (nI t) 3 = (Mr.1 110) (12 + 5 * t + 3) from ofT (c := 3) hk u6 (by omega) (by decide), if_pos c3.1, hadByC u9 (S0_b hI) (by omega), Option.bind_some, if_pos (by rw [nobC hI]; exact c3.2)]
        simp [c3, oI]
      · simp [c3] at hp) (by
    show f_X9_first_L11 r.2 (nI 20) = _
    unfold f_X9_first_L11
    rw [if_pos (by decide)])
  have lR := lpF (f := fun a_5 => f_X10_first_L11 N a_5) (fun i => (fstT LK (Mr.1 110) i).isSome) (fun i => (oI (fstT LK (Mr.1 110) i), N)) 20 (by decide) (fun i hi hp => by
    have hp : (fstT LK (Mr.1 110) i).isSome = false := hp
    show f_X10_first_L11 N (nI i) = _
    unfold f_X10_first_L11
    rw [if_neg (show ¬ (20 : Int32) ≤ nI i by rw [l_20, nI_leI (by omega) (by omega)]; omega), atCellR d4 hI, Option.bind_some]
    unfold fstT at hp
    cases hc : atCell (Mr.1 110) (nI i) with
    | none => rw [if_pos (show oI none = -1 from rfl), l_1, nI_add]
    | some t =>
      have ht := (fnd_ok hc).1
      rw [hc] at hp
      rw [if_neg (show ¬ oI (some t) = -1 from by rw [oI, nI_ne_m1 (by omega)]; exact not_false), oI, show f_X10_of N (nI t) 3 = some ((Mr.1 110) (12 + 5 * t + 3)) from by rw [← d4]; exact ofR (c := 3) (by omega) (by decide), Option.bind_some]
      by_cases c1 : (Mr.1 110) (12 + 5 * t + 3) = 1
      · rw [if_pos c1, if_pos (ibs_nI (by omega) (by decide)), show gA N 119 (nI t) = nI ((S0 LK (Mr.1 110)).2.1 t) from (gA_nI (by omega)).trans (d8 t ht)]
        by_cases c2 : (S0 LK (Mr.1 110)).2.1 t = 0
        · simp [c1, c2] at hp
        · have hr := S0_inv (LK := LK) (m := Mr.1 110) |>.2.1 t
          have hr2 := (hI.rm ht).2.2
          rw [if_neg (show ¬ nI ((S0 LK (Mr.1 110)).2.1 t) = 0 by rw [show (0 : Int32) = nI 0 from rfl, nI_eq (by omega) (by omega)]; exact c2), l_1, nI_add]
      · rw [if_neg c1, l_1, nI_add]) (fun i hi hp => by
    have hp : (fstT LK (Mr.1 110) i).isSome = true := hp
    show f_X10_first_L11 N (nI i) = _
    unfold f_X10_first_L11
    rw [if_neg (show ¬ (20 : Int32) ≤ nI i by rw [l_20, nI_leI (by omega) (by omega)]; omega), atCellR d4 hI, Option.bind_some]
    unfold fstT at hp ⊢
    cases hc : atCell (Mr.1 110) (nI i) with
    | none => rw [hc] at hp; cases hp
    | some t =>
      have ht := (fnd_ok hc).1
      rw [hc] at hp
      by_cases c3 : (Mr.1 110) (12 + 5 * t + 3) = 1 ∧ (S0 LK (Mr.1 110)).2.1 t = 0
      · rw [if_neg (show ¬ oI (some t) = -1 from by rw [oI, nI_ne_m1 (by omega)]; exact not_false), oI, show f_X10_of N (nI t) 3 = some ((Mr.1 110) (12 + 5 * t + 3)) from by rw [← d4]; exact ofR (c := 3) (by omega) (by decide), Option.bind_some, if_pos c3.1, if_pos (ibs_nI (by omega) (by decide)), show gA N 119 (nI t) = nI ((S0 LK (Mr.1 110)).2.1 t) from (gA_nI (by omega)).trans (d8 t ht), c3.2, if_pos (show nI 0 = 0 from rfl)]
        simp [c3, oI]
      · simp [c3] at hp) (by
    show f_X10_first_L11 N (nI 20) = _
    unfold f_X10_first_L11
    rw [if_pos (by decide)])
  have gq0 : gR Mc 1 3 = Mc.2.2 1 3 := rfl
  have cc : f_X9_first Mc = (loop FU (fun a_8 => f_X9_first_L11 r.2 a_8) (nI 0)).bind (Sum.elim (fun v => some v) (fun e_8 => some ((-1), r.2))) := by
    unfold f_X9_first
    rw [Option.bind_some, gq0, if_pos hk, u1, Option.bind_some]
    rfl
  have cr : f_X10_first Mr = (loop FU (fun a_5 => f_X10_first_L11 N a_5) (nI 0)).bind (Sum.elim (fun v => some v) (fun e_5 => some ((-1), N))) := by
    unfold f_X10_first
    rw [Option.bind_some, d1, Option.bind_some]
    rfl
  rw [lC] at cc
  rw [lR] at cr
  refine ⟨r.2, N, ?_, RR_q HL h u3 ⟨u4, u5⟩ d2⟩
  cases hf : fnd (fun i => (fstT LK (Mr.1 110) i).isSome) 20 with
  | none =>
    rw [hf] at cc cr
    exact ⟨-1, cc, cr⟩
  | some i =>
    rw [hf] at cc cr
    exact ⟨_, cc, cr⟩
end FIRST
