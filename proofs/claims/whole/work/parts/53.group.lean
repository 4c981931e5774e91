/-! group -/
section GROUP
variable {LR : Mm → Nat → (Nat → Int32) → Prop} {LK : (Nat → Int32) → Nat → Nat → Int32 → Int32} {n : Nat} {M N Mc Mr Nc Nr : Mm} {q L B a b c : Nat} {m m2 : Nat → Int32} {x x1 x2 x3 x4 x5 : Int32}
def grT (m : Nat → Int32) (f : Nat → Option Nat) (x : Int32) (v : Nat) (s : Int32) : Int32 := if m (57 + 5 * v + 2) = x then (match f v with | none => s | some t => s ||| b1 t) else s
def grV (m : Nat → Int32) (f : Nat → Option Nat) (x : Int32) (v : Nat) (s : Int32) : Int32 := if m (57 + 5 * v + 2) = x then (match f v with | none => s ||| b1 v | some _ => s) else s
theorem s_25 (HL : LSpec LR LK) (h : RR LR n Mc Mr) : ∃ Nc Nr, so_25 x1 x2 x3 x4 x5 Mc Mr Nc Nr ∧ RR LR (n + 1) Nc Nr := by
  obtain ⟨hk, hkL, hM, hI, hR⟩ := h.cur
  have hT := hI.t
  obtain ⟨e4, hV⟩ := hI.v
  have gq : gR Mc 1 3 = Mc.2.2 1 3 := rfl
  have or0' : ∀ s : Int32, s ||| 0 = s := fun s => Int32.or_zero
  rcases rngE (M := Mr) 10 (by decide) x1 with ⟨k, k1, rfl, k2, k3, k4⟩ | ⟨k1, k2⟩
  · obtain ⟨r, u1, u2, u3, u4, u5, u6, u7, u8, u9⟩ := qdayC HL h
    obtain ⟨N, d1, d2, d3, d4, d5, d6, d7, d8⟩ := qdayR HL h 0
    have gq2 : gR r.2 1 3 = Mc.2.2 1 3 := by show r.2.2.2 1 3 = _; rw [u4]
    have g4 : gI r.2 (Mc.2.2 1 3) 4 = nI (vN (Mr.1 110)) := u6.2.2.2.1.trans e4
    have r4 : gA N 110 4 = nI (vN (Mr.1 110)) := by show N.1 110 4 = _; rw [d4]; exact e4
    have ib : ibs (4 : Int32) 807 = true := by decide
    have sb := S0_b (LK := LK) hI
    have lC : loop FU (fun a_7 => f_X9_group_L38 r.2 (nI k) (nb x2) a_7.1 a_7.2.1 a_7.2.2) (0, 0, 0) = some (iter (grT (Mr.1 110) (S0 LK (Mr.1 110)).1 (nI k)) (vN (Mr.1 110)) 0, iter (grV (Mr.1 110) (S0 LK (Mr.1 110)).1 (nI k)) (vN (Mr.1 110)) 0) := by
      have := lpI (f := fun a_7 => f_X9_group_L38 r.2 (nI k) (nb x2) a_7.1 a_7.2.1 a_7.2.2) (fun v (s : Int32 × Int32) => (s.1, s.2, nI v)) (vN (Mr.1 110)) (fun v s => (grT (Mr.1 110) (S0 LK (Mr.1 110)).1 (nI k) v s.1, grV (Mr.1 110) (S0 LK (Mr.1 110)).1 (nI k) v s.2)) id (by omega) (0, 0) (a := (0, 0, 0)) rfl (fun v s hv => ?_) (fun s => ?_)
      · rw [this]
        have sp : ∀ n (a b : Int32), iter (fun v (s : Int32 × Int32) => (grT (Mr.1 110) (S0 LK (Mr.1 110)).1 (nI k) v s.1, grV (Mr.1 110) (S0 LK (Mr.1 110)).1 (nI k) v s.2)) n (a, b) = (iter (grT (Mr.1 110) (S0 LK (Mr.1 110)).1 (nI k)) n a, iter (grV (Mr.1 110) (S0 LK (Mr.1 110)).1 (nI k)) n b) := by
          intro n a b
          induction n with
          | zero => rfl
          | succ n ih => simp only [iter, ih]
        rw [sp]; rfl
      · show f_X9_group_L38 r.2 (nI k) (nb x2) s.1 s.2 (nI v) = _
        unfold f_X9_group_L38 f_X9_group_J38_93
        rw [Option.bind_some, gq2, if_pos hk, g4, if_neg (by rw [nI_leI (by omega) (by omega)]; omega), Option.bind_some, if_pos hk, show f_X4_ofVisitor r.2 (Mc.2.2 1 3) (nI v) 2 = (Mr.1 110) (57 + 5 * v + 2) from ofV (c := 2) hk u6 (by omega) (by decide), at_nI (N := 10) (by decide) (by omega), u9 v (by omega), show nI v + 1 = nI (v + 1) from by rw [l_1, nI_add]]
        unfold grT grV
        by_cases c1 : (Mr.1 110) (57 + 5 * v + 2) = nI k
        · rw [if_pos c1, if_pos c1, if_pos c1]
          cases hu : (S0 LK (Mr.1 110)).1 v with
          | none => rw [if_pos (show oI none = -1 from rfl), if_pos (show oI none = -1 from rfl)]; simp only [Option.bind_some, or0']; rfl
          | some t => rw [if_neg (show ¬ oI (some t) = -1 from by rw [oI, nI_ne_m1 (sb v t hu)]; exact not_false), if_neg (show ¬ oI (some t) = -1 from by rw [oI, nI_ne_m1 (sb v t hu)]; exact not_false)]; simp only [or0']; rfl
        · rw [if_neg c1, if_neg c1, if_neg c1]
      · show f_X9_group_L38 r.2 (nI k) (nb x2) s.1 s.2 (nI (vN (Mr.1 110))) = _
        unfold f_X9_group_L38
        rw [Option.bind_some, gq2, if_pos hk, g4, if_pos (by rw [nI_leI (by omega) (by omega)]; omega)]
        rfl
    have lR : loop FU (fun a_5 => f_X10_group_L37 N (nI k) (nb x2) a_5.1 a_5.2) (0, 0) = some (if nb x2 = 0 then iter (grT (Mr.1 110) (S0 LK (Mr.1 110)).1 (nI k)) (vN (Mr.1 110)) 0 else iter (grV (Mr.1 110) (S0 LK (Mr.1 110)).1 (nI k)) (vN (Mr.1 110)) 0) := by
      have stp : ∀ v s, v < vN (Mr.1 110) → f_X10_group_L37 N (nI k) (nb x2) s (nI v) = some (.inl ((if nb x2 = 0 then grT (Mr.1 110) (S0 LK (Mr.1 110)).1 (nI k) v s else grV (Mr.1 110) (S0 LK (Mr.1 110)).1 (nI k) v s), nI (v + 1))) := fun v s hv => by
        unfold f_X10_group_L37 f_X10_group_J37_86
        have i10 : ibs (nI v) 10 = true := ibs_nI (by omega) (by decide)
        have g117 : gA N 117 (nI v) = oI ((S0 LK (Mr.1 110)).1 v) := (gA_nI (by omega)).trans (d6 v (by omega))
        rw [if_pos ib, r4, if_neg (by rw [nI_leI (by omega) (by omega)]; omega), show f_X10_ofOne N (nI v) 2 = some ((Mr.1 110) (57 + 5 * v + 2)) from by rw [← d4]; exact ofOneR (c := 2) (by omega) (by decide), Option.bind_some, if_pos i10, if_pos i10, if_pos i10, g117, show nI v + 1 = nI (v + 1) from by rw [l_1, nI_add]]
        unfold grT grV
        by_cases c1 : (Mr.1 110) (57 + 5 * v + 2) = nI k
        · rw [if_pos c1, if_pos c1, if_pos c1]
          cases hu : (S0 LK (Mr.1 110)).1 v with
          | none =>
            rw [if_pos (show oI none = -1 from rfl), if_pos (show oI none = -1 from rfl)]
            by_cases c2 : nb x2 = 0
            · rw [if_pos c2, if_pos c2, or0']
            · rw [if_neg c2, if_neg c2]; rfl
          | some t =>
            rw [if_neg (show ¬ oI (some t) = -1 from by rw [oI, nI_ne_m1 (sb v t hu)]; exact not_false), if_neg (show ¬ oI (some t) = -1 from by rw [oI, nI_ne_m1 (sb v t hu)]; exact not_false)]
            by_cases c2 : nb x2 = 0
            · rw [if_pos c2, if_pos c2]; rfl
            · rw [if_neg c2, if_neg c2, or0']
        · rw [if_neg c1, if_neg c1, if_neg c1]
          by_cases c2 : nb x2 = 0
          · rw [if_pos c2]
          · rw [if_neg c2]
      by_cases c2 : nb x2 = 0
      · rw [if_pos c2]
        refine lpI (fun v s => (s, nI v)) (vN (Mr.1 110)) (grT (Mr.1 110) (S0 LK (Mr.1 110)).1 (nI k)) id (by omega) 0 rfl (fun v s hv => ?_) (fun s => ?_)
        · exact (stp v s hv).trans (by rw [if_pos c2])
        · show f_X10_group_L37 N (nI k) (nb x2) s (nI (vN (Mr.1 110))) = _
          unfold f_X10_group_L37
          rw [if_pos ib, r4, if_pos (by rw [nI_leI (by omega) (by omega)]; omega)]
          rfl
      · rw [if_neg c2]
        refine lpI (fun v s => (s, nI v)) (vN (Mr.1 110)) (grV (Mr.1 110) (S0 LK (Mr.1 110)).1 (nI k)) id (by omega) 0 rfl (fun v s hv => ?_) (fun s => ?_)
        · exact (stp v s hv).trans (by rw [if_neg c2])
        · show f_X10_group_L37 N (nI k) (nb x2) s (nI (vN (Mr.1 110))) = _
          unfold f_X10_group_L37
          rw [if_pos ib, r4, if_pos (by rw [nI_leI (by omega) (by omega)]; omega)]
          rfl
    refine ⟨r.2, N, ⟨_, if nb x2 = 0 then iter (grT (Mr.1 110) (S0 LK (Mr.1 110)).1 (nI k)) (vN (Mr.1 110)) 0 else iter (grV (Mr.1 110) (S0 LK (Mr.1 110)).1 (nI k)) (vN (Mr.1 110)) 0, ?_, ?_, Or.inl ⟨rfl, d3⟩⟩, RR_q HL h u3 ⟨u4, u5⟩ d2⟩
    · unfold f_X9_group
      rw [if_neg k2, if_pos (show nI k < 10 from k3), Option.bind_some, gq, if_pos hk, u1, Option.bind_some, lC, Option.bind_some]
      by_cases c2 : nb x2 = 0
      · rw [if_pos c2, if_pos c2]
      · rw [if_neg c2, if_neg c2]
    · unfold f_X10_group f_X10_group_J16
      rw [if_pos (show f_X10_isIn Mr (nI k) 0 9 = true from k4), Option.bind_some, t0, if_pos (by decide), d1, Option.bind_some, lR, Option.bind_some]
  · refine ⟨Mc, sI Mr 109 0 1, ⟨_, 0, ?_, ?_, Or.inr ⟨2, rfl, by rw [t0]; rfl, by rw [t0]; decide⟩⟩, RR_q HL h KpC.rf ⟨rfl, rfl⟩ KpR.t⟩
    · unfold f_X9_group f_X9_group_J10
      rcases k1 with k1 | ⟨k1, k3⟩
      · rw [if_pos k1]
      · rw [if_neg k1, if_neg (show ¬ x1 < 10 from k3)]
    · unfold f_X10_group f_X10_group_J16
      rw [if_neg (show ¬ f_X10_isIn Mr x1 0 9 = true from by rw [show f_X10_isIn Mr x1 0 9 = false from k2]; decide), Option.bind_some, t0, if_neg (by decide)]
end GROUP
