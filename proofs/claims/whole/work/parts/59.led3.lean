/-! led, whole -/
section LED3
variable {LR : Mm → Nat → (Nat → Int32) → Prop} {LK : (Nat → Int32) → Nat → Nat → Int32 → Int32} {n : Nat} {M N Mc Mr Nc Nr : Mm} {q B : Nat} {m : Nat → Int32} {x x1 x2 x3 x4 x5 w : Int32}
theorem bst_le {g : Nat → Nat} {b : Nat} (h : ∀ v, g v ≤ b) {n : Nat} : (bst g n).2 ≤ b := by
  rw [bst_ok.2]
  cases (bst g n).1 with
  | none => exact Nat.zero_le _
  | some u => exact h u
theorem s_35 (HL : LSpec LR LK) (hn : n < 512) (h : RR LR n Mc Mr) : ∃ Nc Nr, so_35 x1 x2 x3 x4 x5 Mc Mr Nc Nr ∧ RR LR (n + 1) Nc Nr := by
  obtain ⟨hk, hkL, hM, hI, hR⟩ := h.cur
  obtain ⟨e4, hV⟩ := hI.v
  have gq : gR Mc 1 3 = Mc.2.2 1 3 := rfl
  have e110 : (sI Mr 109 0 0).1 110 = Mr.1 110 := sI_fn (by decide)
  have ib : ibs (4 : Int32) 807 = true := by decide
  have r4 : gA (sI Mr 109 0 0) 110 4 = nI (vN (Mr.1 110)) := e4
  rcases needT h x1 with ⟨t, t1, rfl, n1, n2⟩ | ⟨n1, n2⟩
  · generalize hcn : (fun v => cnL (Mr.1 110) t v (min (hN (Mr.1 110)) 60)) = cn
    have hcn' : ∀ v, cnL (Mr.1 110) t v (min (hN (Mr.1 110)) 60) = cn v := fun v => by rw [← hcn]
    have c60 : ∀ v, cn v ≤ 60 := fun v => by
      rw [← hcn' v]
      exact Nat.le_trans (cntB_le _ _) (Nat.min_le_right _ _)
    have hlog := hI.2.2.2.2.2.2.2.2
    have tot : sumN cn 10 = cnT (Mr.1 110) t (min (hN (Mr.1 110)) 60) := by
      rw [← cn_sum (t := t) (fun a ha => ⟨_, Nat.lt_of_lt_of_le (hlog a ha).2 hV, (hlog a ha).1.1⟩), hcn]
    have zero : ∀ v, vN (Mr.1 110) ≤ v → v < 2 ^ 31 → cn v = 0 := fun v hv hv2 => by
      rw [← hcn' v]
      unfold cnL
      rw [cntB_0]
      intro a ha
      have h1 := hlog a ha
      have h2 : ¬ (Mr.1 110) (107 + 5 * a + 1) = nI v := fun e => by
        have h3 := h1.2
        rw [e, nI_clamp hv2] at h3
        omega
      simp [h2]
    have b10 : bst cn 10 = bst cn (vN (Mr.1 110)) := by
      have : ∀ k, vN (Mr.1 110) ≤ k → k ≤ 10 → bst cn k = bst cn (vN (Mr.1 110)) := by
        intro k
        induction k with
        | zero => intro hk _; rw [show vN (Mr.1 110) = 0 by omega]
        | succ k ih =>
          intro hk hk2
          by_cases e : vN (Mr.1 110) = k + 1
          · rw [e]
          · rw [bst_succ, if_pos (by rw [zero k (by omega) (by omega)]; omega)]
            exact ih (by omega) (by omega)
      exact this 10 hV (Nat.le_refl _)
    have s600 : ∀ k, sumN cn k ≤ 60 * k := by
      intro k
      induction k with
      | zero => exact Nat.le_refl _
      | succ k ih => rw [sumN_succ]; have := c60 k; omega
    have lC : loop FU (fun a_4 => f_X9_led_L16 Mc (nI t) (nb x2) a_4.1 a_4.2.1 a_4.2.2.1 a_4.2.2.2) (0, (-1), 0, 0) = some (nI (sumN cn 10), oI (bst cn 10).1) := by
      refine (lp0 (Q := fun r => r = (nI (sumN cn 10), oI (bst cn 10).1)) (fun v (s : Nat × Option Nat × Nat) => (nI s.1, oI s.2.1, nI s.2.2, nI v)) 10 (fun v s => s = (sumN cn v, bst cn v)) (by decide) (0, none, 0) rfl rfl (fun v s hv hP => ?_) (fun s hP => ?_)).eq
      · subst hP
        have b60 := bst_le c60 (n := v)
        have e : f_X9_led_L16 Mc (nI t) (nb x2) (nI (sumN cn v)) (oI (bst cn v).1) (nI (bst cn v).2) (nI v) = some (.inl (nI (sumN cn (v + 1)), oI (bst cn (v + 1)).1, nI (bst cn (v + 1)).2, nI (v + 1))) := by
          unfold f_X9_led_L16
          rw [if_neg (show ¬ (10 : Int32) ≤ nI v by rw [l_10, nI_leI (by omega) (by omega)]; omega), Option.bind_some, gq, if_pos hk, timesC hk hM hI (by omega), Option.bind_some, hcn' v, show nI v + 1 = nI (v + 1) from by rw [l_1, nI_add], nI_add, sumN_succ, bst_succ]
          by_cases c1 : cn v ≤ (bst cn v).2
          · rw [if_pos c1, if_pos (by rw [nI_leI (by have := c60 v; omega) (by omega)]; exact c1)]
          · rw [if_neg c1, if_neg (by rw [nI_leI (by have := c60 v; omega) (by omega)]; exact c1)]
            rfl
        exact Tr.cg e (Tr.some (Or.inl ⟨(sumN cn (v + 1), bst cn (v + 1)), rfl, rfl⟩))
      · subst hP
        have e : f_X9_led_L16 Mc (nI t) (nb x2) (nI (sumN cn 10)) (oI (bst cn 10).1) (nI (bst cn 10).2) (nI 10) = some (.inr (nI (sumN cn 10), oI (bst cn 10).1)) := by
          unfold f_X9_led_L16
          rw [if_pos (by decide)]
        exact Tr.cg e (Tr.some ⟨_, rfl, rfl⟩)
    have lR : loop FU (fun a_5 => f_X10_led_L42 (sI Mr 109 0 0) (nI t) a_5.1 a_5.2) ((-1), 0) = some (oI (bst cn (vN (Mr.1 110))).1) := by
      refine (lp0 (Q := fun r => r = oI (bst cn (vN (Mr.1 110))).1) (fun v (s : Option Nat) => (oI s, nI v)) (vN (Mr.1 110)) (fun v s => s = (bst cn v).1) (by omega) none rfl rfl (fun v s hv hP => ?_) (fun s hP => ?_)).eq
      · subst hP
        have cv := c60 v
        have e : f_X10_led_L42 (sI Mr 109 0 0) (nI t) (oI (bst cn v).1) (nI v) = some (.inl (oI (bst cn (v + 1)).1, nI (v + 1))) := by
          unfold f_X10_led_L42 f_X10_led_J42_75
          rw [if_pos ib, r4, if_neg (by rw [nI_leI (by omega) (by omega)]; omega), rowsLR e110 hI (by omega), Option.bind_some, hcn' v, show nI v + 1 = nI (v + 1) from by rw [l_1, nI_add], bst_succ, bst_ok.2]
          cases hb : (bst cn v).1 with
          | none =>
            rw [if_pos (show oI none = -1 from rfl)]
            by_cases c1 : cn v ≤ 0
            · rw [if_pos (show nI (cn v) ≤ 0 by rw [show (0 : Int32) = nI 0 from rfl, nI_leI (by omega) (by omega)]; exact c1), if_pos c1, hb]
            · rw [if_neg (show ¬ nI (cn v) ≤ 0 by rw [show (0 : Int32) = nI 0 from rfl, nI_leI (by omega) (by omega)]; exact c1), if_neg c1]
              rfl
          | some u =>
            have hu := bst_ok.1 u hb
            have cu := c60 u
            rw [if_neg (show ¬ oI (some u) = -1 from by rw [oI, nI_ne_m1 (by omega)]; exact not_false), show f_X10_rowsOf (sI Mr 109 0 0) (nI t) (oI (some u)) = some (nI (cn u)) from by rw [oI, rowsLR e110 hI (by omega), hcn' u], Option.bind_some]
            by_cases c1 : cn v ≤ cn u
            · rw [if_pos (show nI (cn v) ≤ nI (cn u) by rw [nI_leI (by omega) (by omega)]; exact c1), if_pos c1, hb]
            · rw [if_neg (show ¬ nI (cn v) ≤ nI (cn u) by rw [nI_leI (by omega) (by omega)]; exact c1), if_neg c1]
              rfl
        exact Tr.cg e (Tr.some (Or.inl ⟨(bst cn (v + 1)).1, rfl, rfl⟩))
      · subst hP
        have e : f_X10_led_L42 (sI Mr 109 0 0) (nI t) (oI (bst cn (vN (Mr.1 110))).1) (nI (vN (Mr.1 110))) = some (.inr (oI (bst cn (vN (Mr.1 110))).1)) := by
          unfold f_X10_led_L42
          rw [if_pos ib, r4, if_pos (by rw [nI_leI (by omega) (by omega)]; omega)]
        exact Tr.cg e (Tr.some ⟨_, rfl, rfl⟩)
    refine ⟨Mc, sI Mr 109 0 0, ⟨_, if nb x2 = 0 then nI (sumN cn 10) else oI (bst cn 10).1, ?_, ?_, Or.inl ⟨rfl, t0⟩⟩, RR_q HL h KpC.rf ⟨rfl, rfl⟩ KpR.t⟩
    · unfold f_X9_led
      rw [n1, Option.bind_some, Sum.elim_inl, lC, Option.bind_some]
      by_cases c2 : nb x2 = 0
      · rw [if_pos c2, if_pos c2]
      · rw [if_neg c2, if_neg c2]
    · unfold f_X10_led f_X10_led_J14
      rw [n2, Option.bind_some, if_pos rfl, Option.bind_some, t0, if_pos (by decide)]
      by_cases c2 : nb x2 = 0
      · rw [if_pos c2, if_pos c2, rowsTR e110 hI, Option.bind_some, tot]
      · rw [if_neg c2, if_neg c2, lR, Option.bind_some, b10]
  · refine ⟨Mc, sI Mr 109 0 1, ⟨_, 0, ?_, ?_, Or.inr ⟨2, rfl, by rw [t0]; rfl, by rw [t0]; decide⟩⟩, RR_q HL h KpC.rf ⟨rfl, rfl⟩ KpR.t⟩
    · unfold f_X9_led
      rw [n1, Option.bind_some, Sum.elim_inr]
    · unfold f_X10_led f_X10_led_J14
      rw [n2, Option.bind_some, if_neg (by decide), Option.bind_some, t0, if_neg (by decide)]
end LED3
