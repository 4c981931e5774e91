/-! last, comes -/
section LAST
variable {LR : Mm → Nat → (Nat → Int32) → Prop} {LK : (Nat → Int32) → Nat → Nat → Int32 → Int32} {n : Nat} {M N K Mc Mr Nc Nr : Mm} {q L B v t : Nat} {m m0 : Nat → Int32} {x x1 x2 x3 x4 x5 : Int32} {dr : Bool}
/-- on which day first, how many days not -/
def lsF (f : Nat → Option Nat) (i : Nat) : Option Nat × Nat := iter (fun j s => if (f j).isSome = true then (if s.1.isSome = true then s else (some (j + 1), s.2)) else (s.1, s.2 + 1)) i (none, 0)
theorem lsF_succ {f : Nat → Option Nat} {i : Nat} : lsF f (i + 1) = if (f i).isSome = true then (if (lsF f i).1.isSome = true then lsF f i else (some (i + 1), (lsF f i).2)) else ((lsF f i).1, (lsF f i).2 + 1) := rfl
theorem lsF_ok {f : Nat → Option Nat} : ∀ i, (lsF f i).2 ≤ i ∧ ∀ d, (lsF f i).1 = some d → d ≤ i := by
  intro i
  induction i with
  | zero => exact ⟨Nat.le_refl _, fun d h => by cases h⟩
  | succ i ih =>
    rw [lsF_succ]
    by_cases h1 : (f i).isSome = true
    · rw [if_pos h1]
      by_cases h2 : (lsF f i).1.isSome = true
      · rw [if_pos h2]; exact ⟨by have := ih.1; omega, fun d hd => by have := ih.2 d hd; omega⟩
      · rw [if_neg h2]; exact ⟨by have := ih.1; show (lsF f i).2 ≤ i + 1; omega, fun d hd => by cases hd; omega⟩
    · rw [if_neg h1]; exact ⟨by have := ih.1; show (lsF f i).2 + 1 ≤ i + 1; omega, fun d hd => by have := ih.2 d hd; omega⟩
theorem lastC (HL : LSpec LR LK) (hn : n < 512) (h : RR LR n Mc Mr) (hM : M.2.2 1 4 = Mc.2.2 1 4 ∧ M.2.2 1 5 = Mc.2.2 1 5) (h0 : DC LR LK false (Mc.2.2 1 4) (Mc.2.2 1 5) (Mr.1 110) M 0 M) (hv : v < 10) (y2 : Int32) : Tr (loop FU (fun a_9 => f_X9_last_L24 a_9.1 (nI v) y2 a_9.2.1 a_9.2.2.1 a_9.2.2.2) (M, (-1), 0, 1)) (fun r => r.2 = (oI (lsF (fun j => hv1 LK false (dyN LK false (Mr.1 110) j) v) 30).1, nI (lsF (fun j => hv1 LK false (dyN LK false (Mr.1 110) j) v) 30).2) ∧ DC LR LK false (Mc.2.2 1 4) (Mc.2.2 1 5) (Mr.1 110) M 30 r.1) := by
  have k2 := h.1.2.1
  have j1 := h.2.1.1
  have hI := h.cur.2.2.2.1
  refine lp0 (fun i (s : Mm × Option Nat × Nat) => (s.1, oI s.2.1, nI s.2.2, nI (i + 1))) 30 (fun i s => s.2 = lsF (fun j => hv1 LK false (dyN LK false (Mr.1 110) j) v) i ∧ DC LR LK false (Mc.2.2 1 4) (Mc.2.2 1 5) (Mr.1 110) M i s.1) (by omega) (M, none, 0) rfl ⟨rfl, h0⟩ (fun i s hi hP => ?_) (fun s hP => ?_)
  · obtain ⟨N, s2⟩ := s
    obtain ⟨e, hD⟩ := hP
    have e : s2 = lsF (fun j => hv1 LK false (dyN LK false (Mr.1 110) j) v) i := e
    subst e
    have hok := lsF_ok (f := fun j => hv1 LK false (dyN LK false (Mr.1 110) j) v) i
    have hs := lsF_succ (f := fun j => hv1 LK false (dyN LK false (Mr.1 110) j) v) (i := i)
    generalize lsF (fun j => hv1 LK false (dyN LK false (Mr.1 110) j) v) i = s at hok hs ⊢
    generalize lsF (fun j => hv1 LK false (dyN LK false (Mr.1 110) j) v) (i + 1) = s' at hs ⊢
    show Tr (f_X9_last_L24 N (nI v) y2 (oI s.1) (nI s.2) (nI (i + 1))) _
    obtain ⟨g4, g5⟩ := stC HL h h0 hM hD
    unfold f_X9_last_L24
    rw [if_neg (show ¬ (30 : Int32) < nI (i + 1) by rw [l_30, nI_ltI (by omega) (by omega)]; omega), Option.bind_some, g4, if_pos k2, Option.bind_some, g5, if_pos j1]
    refine Tr.bind (DC_step (dr := false) HL k2 j1 hI (by omega) hD) (fun r hr => ?_)
    obtain ⟨r1, r2, r3⟩ := hr
    have hV := hI.v
    have hDj := dyN_inv (LK := LK) (dr := false) hI i (by omega)
    have ho := (hv1_ok (LK := LK) (dr := false) (m := dyN LK false (Mr.1 110) i)).1
    rw [hDj.2.1, hDj.2.2.1] at ho
    have hT := hI.t
    rw [a85 hv, r3 v hv, show nI (i + 1) + 1 = nI (i + 1 + 1) from by rw [l_1, nI_add], show nI s.2 + 1 = nI (s.2 + 1) from by rw [l_1, nI_add]]
    have hs : s' = if (hv1 LK false (dyN LK false (Mr.1 110) i) v).isSome = true then (if s.1.isSome = true then s else (some (i + 1), s.2)) else (s.1, s.2 + 1) := hs
    cases hx : hv1 LK false (dyN LK false (Mr.1 110) i) v with
    | none =>
      rw [hx] at hs
      have hs : s' = (s.1, s.2 + 1) := hs
      rw [if_pos (show oI none = -1 from rfl)]
      exact Tr.some (Or.inl ⟨(r.2, s'), by rw [hs], rfl, r2⟩)
    | some t =>
      have := (ho v t hx).2
      rw [hx] at hs
      rw [if_neg (show ¬ oI (some t) = -1 from by rw [oI, nI_ne_m1 (by omega)]; exact not_false)]
      cases hy : s.1 with
      | none =>
        rw [hy] at hs
        have hs : s' = (some (i + 1), s.2) := hs
        rw [if_pos (show oI none = -1 from rfl)]
        exact Tr.some (Or.inl ⟨(r.2, s'), by rw [hs]; rfl, rfl, r2⟩)
      | some d =>
        rw [hy] at hs
        have hs : s' = s := hs
        have := hok.2 d hy
        rw [if_neg (show ¬ oI (some d) = -1 from by rw [oI, nI_ne_m1 (by omega)]; exact not_false)]
        exact Tr.some (Or.inl ⟨(r.2, s'), by rw [hs, hy], rfl, r2⟩)
  · obtain ⟨N, s⟩ := s
    obtain ⟨e, hD⟩ := hP
    have e : s = lsF (fun j => hv1 LK false (dyN LK false (Mr.1 110) j) v) 30 := e
    show Tr (f_X9_last_L24 N (nI v) y2 (oI s.1) (nI s.2) (nI (30 + 1))) _
    unfold f_X9_last_L24
    rw [if_pos (by decide)]
    exact Tr.some ⟨_, rfl, by rw [e], hD⟩
theorem lastR (HL : LSpec LR LK) (hI : Inv m B) (hB : B + 500 < 2 ^ 31) (hR : LR Mc L m) (h0 : M.1 110 = m) (hv : v < 10) (y2 : Int32) : Tr (loop FU (fun a_6 => f_X10_last_L38 a_6.1 (nI v) y2 a_6.2.1 a_6.2.2.1 a_6.2.2.2) (M, (-1), 0, 1)) (fun r => r.2 = (oI (lsF (fun j => hv1 LK false (dyN LK false m j) v) 30).1, nI (lsF (fun j => hv1 LK false (dyN LK false m j) v) 30).2) ∧ DR LK false m M 30 r.1) := by
  refine lp0 (fun i (s : Mm × Option Nat × Nat) => (s.1, oI s.2.1, nI s.2.2, nI (i + 1))) 30 (fun i s => s.2 = lsF (fun j => hv1 LK false (dyN LK false m j) v) i ∧ DR LK false m M i s.1) (by omega) (M, none, 0) rfl ⟨rfl, h0, FrQ.rf⟩ (fun i s hi hP => ?_) (fun s hP => ?_)
  · obtain ⟨N, s2⟩ := s
    obtain ⟨e, hD⟩ := hP
    have e : s2 = lsF (fun j => hv1 LK false (dyN LK false m j) v) i := e
    subst e
    have hok := lsF_ok (f := fun j => hv1 LK false (dyN LK false m j) v) i
    have hs := lsF_succ (f := fun j => hv1 LK false (dyN LK false m j) v) (i := i)
    generalize lsF (fun j => hv1 LK false (dyN LK false m j) v) i = s at hok hs ⊢
    generalize lsF (fun j => hv1 LK false (dyN LK false m j) v) (i + 1) = s' at hs ⊢
    show Tr (f_X10_last_L38 N (nI v) y2 (oI s.1) (nI s.2) (nI (i + 1))) _
    unfold f_X10_last_L38
    rw [if_neg (show ¬ (30 : Int32) < nI (i + 1) by rw [l_30, nI_ltI (by omega) (by omega)]; omega)]
    refine Tr.bind (DR_step (dr := false) HL hI hR (by omega) hD) (fun r hr => ?_)
    obtain ⟨r1, r2, r3, r4⟩ := hr
    have hV := hI.v
    have hDj := dyN_inv (LK := LK) (dr := false) hI i (by omega)
    have ho := (hv1_ok (LK := LK) (dr := false) (m := dyN LK false m i)).1
    rw [hDj.2.1, hDj.2.2.1] at ho
    have hT := hI.t
    rw [if_pos (ibs_nI (by omega) (by decide)), show gA r.2 117 (nI v) = oI (hv1 LK false (dyN LK false m i) v) from (gA_nI (by omega)).trans (r3 v hv), show nI (i + 1) + 1 = nI (i + 1 + 1) from by rw [l_1, nI_add], show nI s.2 + 1 = nI (s.2 + 1) from by rw [l_1, nI_add]]
    have hs : s' = if (hv1 LK false (dyN LK false m i) v).isSome = true then (if s.1.isSome = true then s else (some (i + 1), s.2)) else (s.1, s.2 + 1) := hs
    cases hx : hv1 LK false (dyN LK false m i) v with
    | none =>
      rw [hx] at hs
      have hs : s' = (s.1, s.2 + 1) := hs
      rw [if_pos (show oI none = -1 from rfl)]
      exact Tr.some (Or.inl ⟨(r.2, s'), by rw [hs], rfl, r2⟩)
    | some t =>
      have := (ho v t hx).2
      rw [hx] at hs
      rw [if_neg (show ¬ oI (some t) = -1 from by rw [oI, nI_ne_m1 (by omega)]; exact not_false)]
      cases hy : s.1 with
      | none =>
        rw [hy] at hs
        have hs : s' = (some (i + 1), s.2) := hs
        rw [if_pos (show oI none = -1 from rfl)]
        exact Tr.some (Or.inl ⟨(r.2, s'), by rw [hs]; rfl, rfl, r2⟩)
      | some d =>
        rw [hy] at hs
        have hs : s' = s := hs
        have := hok.2 d hy
        rw [if_neg (show ¬ oI (some d) = -1 from by rw [oI, nI_ne_m1 (by omega)]; exact not_false)]
        exact Tr.some (Or.inl ⟨(r.2, s'), by rw [hs, hy], rfl, r2⟩)
  · obtain ⟨N, s⟩ := s
    obtain ⟨e, hD⟩ := hP
    have e : s = lsF (fun j => hv1 LK false (dyN LK false m j) v) 30 := e
    show Tr (f_X10_last_L38 N (nI v) y2 (oI s.1) (nI s.2) (nI (30 + 1))) _
    unfold f_X10_last_L38
    rw [if_pos (by decide)]
    exact Tr.some ⟨_, rfl, by rw [e], hD⟩
theorem s_30 (HL : LSpec LR LK) (hn : n < 512) (h : RR LR n Mc Mr) : ∃ Nc Nr, so_30 x1 x2 x3 x4 x5 Mc Mr Nc Nr ∧ RR LR (n + 1) Nc Nr := by
  rcases needV h x1 with ⟨v, v1, rfl, u1, u2⟩ | ⟨u1, u2⟩
  · obtain ⟨hk, hkL, hM, hI, hR⟩ := h.cur
    have hV := hI.v
    obtain ⟨k2, k3, N, d1, d2, d3, d4⟩ := drC HL h
    have m2 := md4 k2
    have l1 := (lnL hkL).2.2.2.2.2
    have eN : N.2.2 1 = Mc.2.2 1 := (d3 1 (by simp; omega)).2.2
    obtain ⟨p, p1, p2, p3⟩ := lastC (v := v) HL hn h (M := N) ⟨by rw [eN], by rw [eN]⟩ ⟨d2, Fr.rf, d4⟩ (by omega) (nb x2)
    have e110 : (sI Mr 109 0 0).1 110 = Mr.1 110 := sI_fn (by decide)
    obtain ⟨A, a1, a2, a3, a4⟩ := asQ (M := sI Mr 109 0 0)
    rw [e110] at a2 a3
    obtain ⟨g, g1, g2, g3⟩ := lastR (v := v) HL hI (by omega) hR a3 (by omega) (nb x2)
    have a5 := a2.gone hI (by omega) g3
    obtain ⟨Q, b1, b2, b3, b4⟩ := a5.back
    have b5 : KpR Mr Q := KpR.t.tr (AS.kp (Mr := sI Mr 109 0 0) (by rw [e110]; exact b2) (b3.trans e110.symm))
    have z0 : gI Q 109 0 = 0 := (b2.1.2 0 (by simp)).trans t0
    refine ⟨p.1, Q, ⟨_, if nb x2 = 0 then p.2.1 else p.2.2, ?_, ?_, Or.inl ⟨rfl, z0⟩⟩, RR_dr HL h ((d3.mono (by simp)).tr p3.2.1) b5⟩
    · unfold f_X9_last
      rw [u1, Option.bind_some, Sum.elim_inl, Option.bind_some, show gR Mc 1 4 = Mc.2.2 1 4 from rfl, if_pos k2, Option.bind_some, show gR Mc 1 3 = Mc.2.2 1 3 from rfl, if_pos hk, d1, Option.bind_some, p1, Option.bind_some]
      by_cases c : nb x2 = 0
      · rw [if_pos c, if_pos c]
      · rw [if_neg c, if_neg c]
    · unfold f_X10_last f_X10_last_J14
      rw [u2, Option.bind_some, if_pos rfl, Option.bind_some, t0, if_pos (by decide), a1, Option.bind_some, g1, Option.bind_some, b1, Option.bind_some, g2, p2]
      by_cases c : nb x2 = 0
      · rw [if_pos c, if_pos c]
      · rw [if_neg c, if_neg c]
  · refine ⟨Mc, sI Mr 109 0 1, ⟨_, 0, ?_, ?_, Or.inr ⟨2, rfl, by rw [t0]; rfl, by rw [t0]; decide⟩⟩, RR_q HL h KpC.rf ⟨rfl, rfl⟩ KpR.t⟩
    · unfold f_X9_last
      rw [u1, Option.bind_some, Sum.elim_inr]
    · unfold f_X10_last f_X10_last_J14
      rw [u2, Option.bind_some, if_neg (by decide), Option.bind_some, t0, if_neg (by decide)]
/-- the first day on which a thing has somebody -/
def fdI : Option Nat → Int32
  | none => -1
  | some j => nI (j + 1)
theorem fnd_none {p : Nat → Bool} {n i : Nat} (h : fnd p n = none) (hi : i < n) : p i = false := by
  induction n with
  | zero => omega
  | succ n ih =>
    rw [fnd_succ] at h
    by_cases h1 : (fnd p n).isSome = true
    · rw [if_pos h1] at h; rw [h] at h1; cases h1
    · rw [if_neg h1] at h
      by_cases h2 : p n = true
      · rw [if_pos h2] at h; cases h
      · by_cases e : i = n
        · subst e; simpa using h2
        · exact ih (by simpa using h1) (by omega)
theorem fnd_mono {p : Nat → Bool} {n t : Nat} (h : fnd p n = some t) : ∀ k, n ≤ k → fnd p k = some t := by
  intro k
  induction k with
  | zero => intro hk; rw [show n = 0 by omega] at h; exact h
  | succ k ih =>
    intro hk
    by_cases e : n = k + 1
    · rw [← e]; exact h
    · rw [fnd_succ, ih (by omega)]; rfl
theorem comesC (HL : LSpec LR LK) (hn : n < 512) (h : RR LR n Mc Mr) (hM : M.2.2 1 4 = Mc.2.2 1 4 ∧ M.2.2 1 5 = Mc.2.2 1 5) (h0 : DC LR LK false (Mc.2.2 1 4) (Mc.2.2 1 5) (Mr.1 110) M 0 M) (ht : t < tN (Mr.1 110)) : Tr ((loop FU (fun a_10 => f_X9_comes_L18 a_10.1 (nI t) a_10.2) (M, 1)).bind (Sum.elim (fun v => some v) (fun e_10 => some (.inl ((-1), e_10))))) (fun r => ∃ K, r = .inl (fdI (fnd (fun j => decide (¬ cn1 LK false (dyN LK false (Mr.1 110) j) t = 0)) 30), K) ∧ Fr [Mc.2.2 1 4, Mc.2.2 1 4 + 1, Mc.2.2 1 4 + 2, Mc.2.2 1 4 + 3, Mc.2.2 1 5 + 5, 83, 84, 85, 86] M K) := by
  have k2 := h.1.2.1
  have j1 := h.2.1.1
  have hI := h.cur.2.2.2.1
  have hV := hI.v
  have hT := hI.t
  generalize hp : (fun j => decide (¬ cn1 LK false (dyN LK false (Mr.1 110) j) t = 0)) = p
  refine Tr.bind (Q := fun r => (∃ K, r = .inl (.inl (fdI (fnd p 30), K)) ∧ Fr [Mc.2.2 1 4, Mc.2.2 1 4 + 1, Mc.2.2 1 4 + 2, Mc.2.2 1 4 + 3, Mc.2.2 1 5 + 5, 83, 84, 85, 86] M K) ∨ (∃ K, r = .inr K ∧ fnd p 30 = none ∧ Fr [Mc.2.2 1 4, Mc.2.2 1 4 + 1, Mc.2.2 1 4 + 2, Mc.2.2 1 4 + 3, Mc.2.2 1 5 + 5, 83, 84, 85, 86] M K)) ?_ (fun r hr => ?_)
  · refine lp0 (fun i (N : Mm) => (N, nI (i + 1))) 30 (fun i N => fnd p i = none ∧ DC LR LK false (Mc.2.2 1 4) (Mc.2.2 1 5) (Mr.1 110) M i N) (by omega) M rfl ⟨rfl, h0⟩ (fun i N hi hP => ?_) (fun N hP => ?_)
    · obtain ⟨e, hD⟩ := hP
      show Tr (f_X9_comes_L18 N (nI t) (nI (i + 1))) _
      obtain ⟨g4, g5⟩ := stC HL h h0 hM hD
      unfold f_X9_comes_L18
      rw [if_neg (show ¬ (30 : Int32) < nI (i + 1) by rw [l_30, nI_ltI (by omega) (by omega)]; omega), Option.bind_some, g4, if_pos k2, Option.bind_some, g5, if_pos j1]
      refine Tr.bind (DC_step (dr := false) HL k2 j1 hI (by omega) hD) (fun r hr => ?_)
      obtain ⟨r1, r2, r3⟩ := hr
      have hDj := dyN_inv (LK := LK) (dr := false) hI i (by omega)
      have ho := (hv1_ok (LK := LK) (dr := false) (m := dyN LK false (Mr.1 110) i)).1
      have hc := cn1_ok (LK := LK) (dr := false) (m := dyN LK false (Mr.1 110) i)
      rw [hDj.2.2.1] at hc
      rw [hDj.2.1, hDj.2.2.1] at ho
      have hno := nob hV.2 (fun v t hv => (ho v t hv).1) hc t
      have hpi : p i = decide (¬ cn1 LK false (dyN LK false (Mr.1 110) i) t = 0) := by rw [← hp]
      rw [hadByC r3 (fun v t hv => by have := (ho v t hv).2; omega) (by omega), Option.bind_some]
      by_cases c : cn1 LK false (dyN LK false (Mr.1 110) i) t = 0
      · rw [if_pos (by rw [hno]; exact c)]
        refine Tr.some (Or.inl ⟨r.2, by rw [l_1, nI_add], ?_, r2⟩)
        rw [fnd_succ, e, hpi]
        simp [c]
      · rw [if_neg (by rw [hno]; exact c)]
        have e1 : fnd p (i + 1) = some i := by
          rw [fnd_succ, e, hpi]
          simp [c]
        have e2 := fnd_mono e1 30 (by omega)
        refine Tr.some (Or.inr ⟨_, rfl, Or.inl ⟨r.2, ?_, r2.2.1⟩⟩)
        rw [e2]; rfl
    · obtain ⟨e, hD⟩ := hP
      show Tr (f_X9_comes_L18 N (nI t) (nI (30 + 1))) _
      unfold f_X9_comes_L18
      rw [if_pos (by decide)]
      exact Tr.some ⟨_, rfl, Or.inr ⟨N, rfl, e, hD.2.1⟩⟩
  · rcases hr with ⟨K, rfl, hK⟩ | ⟨K, rfl, e, hK⟩
    · exact Tr.some ⟨K, rfl, hK⟩
    · exact Tr.some ⟨K, by rw [e]; rfl, hK⟩
theorem comesR (HL : LSpec LR LK) (hI : Inv m B) (hB : B + 500 < 2 ^ 31) (hR : LR Mc L m) (h0 : M.1 110 = m) (hA : AS m K M) (ht : t < tN m) : Tr (loop FU (fun a_6 => f_X10_comes_L34 a_6.1 (nI t) a_6.2.1 a_6.2.2) (M, (-1), 1)) (fun r => r.2 = fdI (fnd (fun j => decide (¬ cn1 LK false (dyN LK false m j) t = 0)) 30) ∧ AS m K r.1) := by
  have hT := hI.t
  generalize hp : (fun j => decide (¬ cn1 LK false (dyN LK false m j) t = 0)) = p
  refine lp0 (fun i (s : Mm × Option Nat) => (s.1, fdI s.2, nI (i + 1))) 30 (fun i s => s.2 = fnd p i ∧ AS m K s.1 ∧ (s.2 = none → DR LK false m M i s.1)) (by omega) (M, none) rfl ⟨rfl, hA, fun _ => ⟨h0, FrQ.rf⟩⟩ (fun i s hi hP => ?_) (fun s hP => ?_)
  · obtain ⟨N, o⟩ := s
    obtain ⟨e, hS, hD⟩ := hP
    have e : o = fnd p i := e
    have hS : AS m K N := hS
    show Tr (f_X10_comes_L34 N (nI t) (fdI o) (nI (i + 1))) _
    unfold f_X10_comes_L34
    rw [if_neg (show ¬ (30 : Int32) < nI (i + 1) by rw [l_30, nI_ltI (by omega) (by omega)]; omega)]
    cases ho : o with
    | none =>
      rw [if_pos (show fdI none = -1 from rfl)]
      have hD : DR LK false m M i N := hD ho
      refine Tr.bind (DR_step (dr := false) HL hI hR (by omega) hD) (fun r hr => ?_)
      obtain ⟨r1, r2, r3, r4⟩ := hr
      have hS2 : AS m K r.2 := by
        obtain ⟨a1, a2, a3⟩ := hA
        obtain ⟨d1, d2⟩ := r2
        refine ⟨a1.tr (d2.mono (by simp)), fun k hk => by rw [(d2.1 112 (by simp)).1]; exact a2 k hk, fun k hk => ?_⟩
        rw [d1]
        exact dyN_hi hI hk _ (by omega)
      have hDj := dyN_inv (LK := LK) (dr := false) hI i (by omega)
      have hcn := (hv1_ok (LK := LK) (dr := false) (m := dyN LK false m i)).2.1 t
      have hrm := (hDj.1.rm (by rw [hDj.2.1]; exact ht)).2.2
      have hpi : p i = decide (¬ cn1 LK false (dyN LK false m i) t = 0) := by rw [← hp]
      rw [if_pos (ibs_nI (by omega) (by decide)), show gA r.2 119 (nI t) = nI (cn1 LK false (dyN LK false m i) t) from (gA_nI (by omega)).trans (r4 t ht), show nI (i + 1) + 1 = nI (i + 1 + 1) from by rw [l_1, nI_add]]
      by_cases c : cn1 LK false (dyN LK false m i) t = 0
      · rw [if_pos (show nI (cn1 LK false (dyN LK false m i) t) ≤ 0 by rw [c]; decide)]
        refine Tr.some (Or.inl ⟨(r.2, none), rfl, ?_, hS2, fun _ => r2⟩)
        show none = fnd p (i + 1)
        rw [fnd_succ, ← e, ho, hpi]
        simp [c]
      · rw [if_neg (show ¬ nI (cn1 LK false (dyN LK false m i) t) ≤ 0 by rw [show (0 : Int32) = nI 0 from rfl, nI_leI (by omega) (by omega)]; omega)]
        refine Tr.some (Or.inl ⟨(r.2, some i), rfl, ?_, hS2, fun hh => by cases hh⟩)
        show some i = fnd p (i + 1)
        rw [fnd_succ, ← e, ho, hpi]
        simp [c]
    | some j =>
      have hj := (fnd_ok (e.symm.trans ho)).1
      rw [if_neg (show ¬ fdI (some j) = -1 from by rw [fdI, nI_ne_m1 (by omega)]; exact not_false)]
      refine Tr.some (Or.inr ⟨_, rfl, ?_, hS⟩)
      rw [fnd_mono (e.symm.trans ho) 30 (by omega)]
  · obtain ⟨N, o⟩ := s
    obtain ⟨e, hS, hD⟩ := hP
    have e : o = fnd p 30 := e
    show Tr (f_X10_comes_L34 N (nI t) (fdI o) (nI (30 + 1))) _
    unfold f_X10_comes_L34
    rw [if_pos (by decide)]
    exact Tr.some ⟨_, rfl, by rw [e], hS⟩
theorem s_31 (HL : LSpec LR LK) (hn : n < 512) (h : RR LR n Mc Mr) : ∃ Nc Nr, so_31 x1 x2 x3 x4 x5 Mc Mr Nc Nr ∧ RR LR (n + 1) Nc Nr := by
  rcases needT h x1 with ⟨t, t1, rfl, u1, u2⟩ | ⟨u1, u2⟩
  · obtain ⟨hk, hkL, hM, hI, hR⟩ := h.cur
    obtain ⟨k2, k3, N, d1, d2, d3, d4⟩ := drC HL h
    have m2 := md4 k2
    have l1 := (lnL hkL).2.2.2.2.2
    have eN : N.2.2 1 = Mc.2.2 1 := (d3 1 (by simp; omega)).2.2
    obtain ⟨p, p1, Kc, p2, p3⟩ := comesC HL hn h (M := N) ⟨by rw [eN], by rw [eN]⟩ ⟨d2, Fr.rf, d4⟩ t1
    have e110 : (sI Mr 109 0 0).1 110 = Mr.1 110 := sI_fn (by decide)
    obtain ⟨A, a1, a2, a3, a4⟩ := asQ (M := sI Mr 109 0 0)
    rw [e110] at a2 a3
    obtain ⟨g, g1, g2, a5⟩ := comesR HL hI (by omega) hR a3 a2 t1
    obtain ⟨Q, b1, b2, b3, b4⟩ := a5.back
    have b5 : KpR Mr Q := KpR.t.tr (AS.kp (Mr := sI Mr 109 0 0) (by rw [e110]; exact b2) (b3.trans e110.symm))
    have z0 : gI Q 109 0 = 0 := (b2.1.2 0 (by simp)).trans t0
    refine ⟨Kc, Q, ⟨p, g.2, ?_, ?_, Or.inl ⟨by rw [p2, g2], z0⟩⟩, RR_dr HL h ((d3.mono (by simp)).tr p3) b5⟩
    · unfold f_X9_comes
      rw [u1, Option.bind_some, Sum.elim_inl, Option.bind_some, show gR Mc 1 4 = Mc.2.2 1 4 from rfl, if_pos k2, Option.bind_some, show gR Mc 1 3 = Mc.2.2 1 3 from rfl, if_pos hk, d1, Option.bind_some, p1]
    · unfold f_X10_comes f_X10_comes_J14
      rw [u2, Option.bind_some, if_pos rfl, Option.bind_some, t0, if_pos (by decide), a1, Option.bind_some, g1, Option.bind_some, b1, Option.bind_some]
  · refine ⟨Mc, sI Mr 109 0 1, ⟨_, 0, ?_, ?_, Or.inr ⟨2, rfl, by rw [t0]; rfl, by rw [t0]; decide⟩⟩, RR_q HL h KpC.rf ⟨rfl, rfl⟩ KpR.t⟩
    · unfold f_X9_comes
      rw [u1, Option.bind_some, Sum.elim_inr]
    · unfold f_X10_comes f_X10_comes_J14
      rw [u2, Option.bind_some, if_neg (by decide), Option.bind_some, t0, if_neg (by decide)]
end LAST
