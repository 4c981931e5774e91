/-! the reference reads a condition, whole -/
section LAWC
variable {tx : Nat → Int32} {e i j k r b N2 f c a cc d n q w : Nat} {M N K : Mm} {p p2 l2 : List Int32} {x T o s mk op : Int32} {P : Nat → Int32} {v v2 : Bool} {sub : Nat → GP} {F : Mm → Option (Bool × Mm)}
def WA (M N : Mm) : Prop := Fr [109] M N ∧ ∀ c, c ≠ 11 → c ≠ 12 → c ≠ 13 → N.1 109 c = M.1 109 c
theorem WA.rf : WA M M := ⟨Fr.rf, fun _ _ _ _ => rfl⟩
theorem WA.tr (h : WA M N) (h2 : WA N K) : WA M K := ⟨h.1.tr h2.1, fun c c1 c2 c3 => (h2.2 c c1 c2 c3).trans (h.2 c c1 c2 c3)⟩
theorem WA.s9 (h : c = 11 ∨ c = 12 ∨ c = 13) : WA M (sI M 109 c x) := ⟨Fr.sI (by simp), fun d h1 h2 h3 => by rw [sI_at, if_neg (by omega)]⟩
theorem WA.at : WA M (sAt M a) := WA.s9 (Or.inl rfl)
theorem WA.txr (hF : WA M N) (h : TxR M tx e) : TxR N tx e := h.fr (hF.2 9 (by decide) (by decide) (by decide)) (hF.2 10 (by decide) (by decide) (by decide)) (hF.1 114 (by simp)).1 (fun k _ => congrFun (hF.1 110 (by simp)).1 k)
theorem WA.ev (hF : WA M N) (h : Evn P mk M) : Evn P mk N := ⟨fun k hk => (congrFun (hF.1 115 (by simp)).1 k).trans (h.1 k hk), (hF.2 16 (by decide) (by decide) (by decide)).trans h.2⟩
def Flc (N : Mm) (e f c : Nat) : Prop := f ≤ e ∧ e ≤ 400 ∧ N.1 109 12 = nI f ∧ ∃ a, a ≤ e + c ∧ N.1 109 11 = nI a
theorem Flc.ne (h : Flc M e f c) : gI M 109 12 ≠ -1 := by
  have : gI M 109 12 = nI f := h.2.2.1
  rw [this, Ne, nI_ne_m1 (by have := h.1; have := h.2.1; omega)]
  exact not_false
theorem Flc.of (he : e ≤ 400) (ha : a ≤ e + c) (hf : f ≤ e) : Flc (sI (sAt M a) 109 12 (nI f)) e f c := ⟨hf, he, by rw [sI_at, if_pos ⟨rfl, rfl⟩], a, ha, by rw [sI_at, if_neg (by omega)]; exact at_sAt⟩
theorem Flc.mono (h : Flc M e f c) (hd : c ≤ d) : Flc M e f d := by
  obtain ⟨h1, h2, h3, a, h4, h5⟩ := h
  exact ⟨h1, h2, h3, a, by omega, h5⟩
theorem Flc.s13 (h : Flc M e f c) : Flc (sI M 109 13 x) e f c := by
  obtain ⟨h1, h2, h3, a, h4, h5⟩ := h
  exact ⟨h1, h2, by rw [sI_at, if_neg (by omega)]; exact h3, a, h4, by rw [sI_at, if_neg (by omega)]; exact h5⟩
theorem Flc.s11 (h : Flc M e f c) : Flc (sI M 109 11 (gI M 109 11 + 1)) e f (c + 1) := by
  obtain ⟨h1, h2, h3, a, h4, h5⟩ := h
  refine ⟨h1, h2, by rw [sI_at, if_neg (by omega)]; exact h3, a + 1, by omega, ?_⟩
  rw [sI_at, if_pos ⟨rfl, rfl⟩, show gI M 109 11 = nI a from h5, l_1, nI_add]
theorem wd_lt (he : e ≤ 400) (h : wdT tx e j ≠ 330) : j < 400 := by
  obtain ⟨n, n1, n2, n3⟩ := n_ex (tx := tx) he
  refine Classical.byContradiction (fun hc => h ((wd330 he).mpr (bg_ge he n2 j (by omega))))
theorem suP_bad (h : opA tx e i = -1) : suP tx e k p i = .inl i := by
  cases k with
  | zero => rfl
  | succ k => rw [suP, if_pos h]
theorem smF_snoc : smF P s (p ++ [x]) = smF P s p + pv P x := by rw [smF_app]; rfl
theorem smF_one : smF P 0 ([] ++ [x]) = pv P x := by show 0 + pv P x = _; rw [Int32.zero_add]
theorem smR (h : TxR M tx e) (hf : M.1 109 12 = -1) (ha : AtR M tx e i) (hP : Evn P mk M) : ∃ G, suP tx e 400 [] i = G ∧ Tr (f_X10_sum M) (fun x => WA M x.2 ∧ match (generalizing := false) G with | .inl b => Flc x.2 e (bg tx e b) 0 | .inr (p, j) => x.2.1 109 12 = -1 ∧ x.2.1 109 13 = M.1 109 13 ∧ AtR x.2 tx e j ∧ x.1 = smF P 0 p) := by
  have he := h.1
  have hbi : ∀ i, bg tx e i ≤ e := fun i => bg_le he i
  obtain ⟨p1, p2⟩ := partR h hf ha hP
  unfold f_X10_sum
  refine ⟨_, rfl, ?_⟩
  generalize hG : suP tx e 400 [] i = G
  -- the loop
  have lp : ∀ m s, m < 9000 → (WA M s.1 ∧ ((s.1.1 109 12 = -1 ∧ s.1.1 109 13 = M.1 109 13 ∧ ∃ q i', AtR s.1 tx e (i' + 1) ∧ s.2 = smF P 0 (q ++ [opA tx e i']) ∧ 399 ≤ m + i' ∧ (if wdT tx e (i' + 1) = 327 then suP tx e m (q ++ [opA tx e i']) (i' + 2) else .inr (q ++ [opA tx e i'], i' + 1)) = G) ∨ ∃ b, G = .inl b ∧ Flc s.1 e (bg tx e b) 0)) → Tr (loop FU (fun a_8 => f_X10_sum_L5 a_8.1 a_8.2) s) (fun z : Mm × Int32 => WA M z.1 ∧ match (generalizing := false) G with | .inl b => Flc z.1 e (bg tx e b) 0 | .inr (p, j) => z.1.1 109 12 = -1 ∧ z.1.1 109 13 = M.1 109 13 ∧ AtR z.1 tx e j ∧ z.2 = smF P 0 p) := fun m s hm hs => by
    refine lpV (fun m (s : Mm × Int32) => WA M s.1 ∧ ((s.1.1 109 12 = -1 ∧ s.1.1 109 13 = M.1 109 13 ∧ ∃ q i', AtR s.1 tx e (i' + 1) ∧ s.2 = smF P 0 (q ++ [opA tx e i']) ∧ 399 ≤ m + i' ∧ (if wdT tx e (i' + 1) = 327 then suP tx e m (q ++ [opA tx e i']) (i' + 2) else .inr (q ++ [opA tx e i'], i' + 1)) = G) ∨ ∃ b, G = .inl b ∧ Flc s.1 e (bg tx e b) 0)) (fun m s hs => ?_) FU m s (by show m < 10000; omega) hs
    obtain ⟨N, y⟩ := s
    obtain ⟨w1, w2⟩ := hs
    have w1 : WA M N := w1
    show Tr (f_X10_sum_L5 N y) _
    unfold f_X10_sum_L5
    rcases w2 with ⟨f1, f2, q, i', g1, g2, g3, g4⟩ | ⟨b, g1, g2⟩
    · have f1 : N.1 109 12 = -1 := f1
      have f2 : N.1 109 13 = M.1 109 13 := f2
      have g1 : AtR N tx e (i' + 1) := g1
      have g2 : y = smF P 0 (q ++ [opA tx e i']) := g2
      have xN := w1.txr h
      obtain ⟨t1, t2, t3⟩ := signT xN g1 (j := 27) (by decide) (by decide) s_law.2.2.2.2.2.2.2.1
      rw [show gI N 109 12 = -1 from f1, if_pos rfl, t1, Option.bind_some]
      by_cases c : wdT tx e (i' + 1) = 327
      · obtain ⟨t4, t5⟩ := t3 c
        rw [decide_eq_true (show wdT tx e (i' + 1) = 300 + 27 from c), if_pos rfl, show gI (sAt N (bg tx e (i' + 1))) 109 11 = nI (bg tx e (i' + 1)) from at_sAt, l_1, nI_add, show sI (sAt N (bg tx e (i' + 1))) 109 11 (nI (bg tx e (i' + 1) + 1)) = sAt N (bg tx e (i' + 1) + 1) from sI_sI, Option.bind_some]
        rw [if_pos c] at g4
        have hm1 : i' + 1 < 400 := wd_lt he (by rw [c]; decide)
        obtain ⟨m', rfl⟩ : ∃ m', m = m' + 1 := ⟨m - 1, by omega⟩
        have xA : TxR (sAt N (bg tx e (i' + 1) + 1)) tx e := xN.at
        have fA : (sAt N (bg tx e (i' + 1) + 1)).1 109 12 = -1 := (sAt_ne (by decide)).trans f1
        have wA : WA M (sAt N (bg tx e (i' + 1) + 1)) := w1.tr WA.at
        obtain ⟨q1, q2⟩ := partR xA fA t5 (wA.ev hP)
        by_cases c2 : opA tx e (i' + 2) = -1
        · obtain ⟨x, a, a1, a2⟩ := q2 c2
          rw [sAt_sAt] at a2
          rw [a2, Option.bind_some]
          rw [suP_bad c2] at g4
          exact Tr.some (Or.inl ⟨0, (sI (sAt N a) 109 12 (nI (bg tx e (i' + 2))), y + x), rfl, ⟨(w1.tr WA.at).tr (WA.s9 (Or.inr (Or.inl rfl))), Or.inr ⟨i' + 2, g4.symm, Flc.of he (by omega) (hbi _)⟩⟩, by omega⟩)
        · obtain ⟨a, a1, a2, a3⟩ := q1 c2
          rw [sAt_sAt] at a2 a3
          rw [a2, Option.bind_some]
          rw [suP, if_neg c2] at g4
          have z1 : (sAt N a).1 109 12 = -1 := (sAt_ne (by decide)).trans f1
          have z2 : (sAt N a).1 109 13 = M.1 109 13 := (sAt_ne (by decide)).trans f2
          have z3 : y + pv P (opA tx e (i' + 2)) = smF P 0 (q ++ [opA tx e i'] ++ [opA tx e (i' + 2)]) := by rw [smF_snoc, g2]
          have z4 : WA M (sAt N a) := w1.tr WA.at
          generalize sAt N a = N2 at a3 z1 z2 z4
          generalize y + pv P (opA tx e (i' + 2)) = y2 at z3
          exact Tr.some (Or.inl ⟨m', (N2, y2), rfl, ⟨z4, Or.inl ⟨z1, z2, q ++ [opA tx e i'], i' + 2, a3, z3, by omega, g4⟩⟩, by omega⟩)
      · rw [if_neg c] at g4
        rw [decide_eq_false (show ¬ wdT tx e (i' + 1) = 300 + 27 from c), if_neg (show ¬ false = true by decide)]
        refine Tr.some (Or.inr ⟨_, rfl, w1.tr WA.at, ?_⟩)
        rw [← g4]
        exact ⟨(sAt_ne (by decide)).trans f1, (sAt_ne (by decide)).trans f2, t2, g2⟩
    · have g2 : Flc N e (bg tx e b) 0 := g2
      rw [if_neg g2.ne]
      refine Tr.some (Or.inr ⟨_, rfl, w1, ?_⟩)
      rw [g1]; exact g2
  by_cases c : opA tx e i = -1
  · obtain ⟨x, a, a1, a2⟩ := p2 c
    rw [a2, Option.bind_some]
    rw [suP_bad c] at hG
    refine Tr.bind (lp 0 _ (by decide) ⟨WA.at.tr (WA.s9 (Or.inr (Or.inl rfl))), Or.inr ⟨i, hG.symm, Flc.of he (by omega) (hbi _)⟩⟩) (fun z hz => Tr.some hz)
  · obtain ⟨a, a1, a2, a3⟩ := p1 c
    rw [a2, Option.bind_some]
    rw [suP, if_neg c] at hG
    have z1 : (sAt M a).1 109 12 = -1 := (sAt_ne (by decide)).trans hf
    have z2 : (sAt M a).1 109 13 = M.1 109 13 := sAt_ne (by decide)
    have z3 : pv P (opA tx e i) = smF P 0 ([] ++ [opA tx e i]) := smF_one.symm
    have z4 : WA M (sAt M a) := WA.at
    generalize sAt M a = N2 at a3 z1 z2 z4
    generalize pv P (opA tx e i) = y2 at z3
    exact Tr.bind (lp 399 (N2, y2) (by decide) ⟨z4, Or.inl ⟨z1, z2, [], i, a3, z3, Nat.le_add_right _ _, hG⟩⟩) (fun z hz => Tr.some hz)
/-- how the reference stands behind a piece of a condition -/
def CR (P : Nat → Int32) (mk : Int32) (tx : Nat → Int32) (e : Nat) (M : Mm) (lev : Nat) (G : GP) (cc : Nat) (x : Bool × Mm) : Prop := WA M x.2 ∧ match G with | .inl b => Flc x.2 e (bg tx e b) cc | .inr (p, j) => x.2.1 109 12 = -1 ∧ x.2.1 109 13 = M.1 109 13 ∧ AtR x.2 tx e j ∧ Ev P mk lev p x.1
end LAWC
