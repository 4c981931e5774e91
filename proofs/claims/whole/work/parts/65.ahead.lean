/-! ahead, last, comes -/
section AHEAD
variable {LR : Mm → Nat → (Nat → Int32) → Prop} {LK : (Nat → Int32) → Nat → Nat → Int32 → Int32} {n : Nat} {M N K Mc Mr Nc Nr : Mm} {q L B v t : Nat} {m m0 : Nat → Int32} {x x1 x2 x3 x4 x5 : Int32} {dr : Bool}
theorem had_set {f : Nat → Option Nat} {V : Nat} (hV : V ≤ 10) (h1 : ∀ v t, f v = some t → v < V) : bset (fun v => decide (f v = some t)) 10 = bset (fun v => decide (f v = some t)) V := by
  refine bset_eq (by omega) (by omega) (fun i hi => ?_)
  by_cases h : f i = some t
  · have := h1 i t h
    have a : i < 10 := by omega
    simp [a, this]
  · simp [h]
theorem stC (HL : LSpec LR LK) (h : RR LR n Mc Mr) (hN : DC LR LK false (Mc.2.2 1 4) (Mc.2.2 1 5) (Mr.1 110) M 0 N) (hM : M.2.2 1 4 = Mc.2.2 1 4 ∧ M.2.2 1 5 = Mc.2.2 1 5) {i : Nat} (h2 : DC LR LK false (Mc.2.2 1 4) (Mc.2.2 1 5) (Mr.1 110) M i K) : gR K 1 4 = Mc.2.2 1 4 ∧ gR K 1 5 = Mc.2.2 1 5 := by
  have k2 := h.1.2.1
  have j1 := h.2.1.1
  have m2 := md4 k2
  have l1 := (lnL j1).2.2.2.2.2
  have e : K.2.2 1 = M.2.2 1 := (h2.2.1 1 (by simp; omega)).2.2
  exact ⟨by show K.2.2 1 4 = _; rw [e]; exact hM.1, by show K.2.2 1 5 = _; rw [e]; exact hM.2⟩
theorem aheadC (HL : LSpec LR LK) (hn : n < 512) (h : RR LR n Mc Mr) (hM : M.2.2 1 4 = Mc.2.2 1 4 ∧ M.2.2 1 5 = Mc.2.2 1 5) (h0 : DC LR LK false (Mc.2.2 1 4) (Mc.2.2 1 5) (Mr.1 110) M 0 M) {k : Nat} (hk30 : k ≤ 30) (y1 y3 : Int32) : Tr (loop FU (fun a_10 => f_X9_ahead_L43 a_10.1 y1 (nI k) y3 a_10.2) (M, 0)) (fun K => DC LR LK false (Mc.2.2 1 4) (Mc.2.2 1 5) (Mr.1 110) M k K ∧ ∀ j, k = j + 1 → ∀ v, v < 10 → K.1 85 v = oI (hv1 LK false (dyN LK false (Mr.1 110) j) v)) := by
  have k2 := h.1.2.1
  have j1 := h.2.1.1
  have hI := h.cur.2.2.2.1
  refine lp0 (fun i (N : Mm) => (N, nI i)) k (fun i K => DC LR LK false (Mc.2.2 1 4) (Mc.2.2 1 5) (Mr.1 110) M i K ∧ ∀ j, i = j + 1 → ∀ v, v < 10 → K.1 85 v = oI (hv1 LK false (dyN LK false (Mr.1 110) j) v)) (by omega) M rfl ⟨h0, fun j hj => by omega⟩ (fun i N hi hP => ?_) (fun N hP => ?_)
  · show Tr (f_X9_ahead_L43 N y1 (nI k) y3 (nI i)) _
    obtain ⟨g4, g5⟩ := stC HL h h0 hM hP.1
    unfold f_X9_ahead_L43
    rw [if_neg (by rw [nI_leI (by omega) (by omega)]; omega), Option.bind_some, g4, if_pos k2, Option.bind_some, g5, if_pos j1]
    refine Tr.bind (DC_step (dr := false) HL k2 j1 hI (by omega) hP.1) (fun r hr => ?_)
    obtain ⟨r1, r2, r3⟩ := hr
    refine Tr.some (Or.inl ⟨r.2, by rw [l_1, nI_add], r2, fun j hj v hv => ?_⟩)
    have : j = i := by omega
    subst this
    exact r3 v hv
  · show Tr (f_X9_ahead_L43 N y1 (nI k) y3 (nI k)) _
    unfold f_X9_ahead_L43
    rw [if_pos (by rw [nI_leI (by omega) (by omega)]; omega)]
    exact Tr.some ⟨_, rfl, hP⟩
theorem aheadR (HL : LSpec LR LK) (hI : Inv m B) (hB : B + 500 < 2 ^ 31) (hR : LR Mc L m) (h0 : M.1 110 = m) {k : Nat} (hk30 : k ≤ 30) (y1 y3 : Int32) : Tr (loop FU (fun a_6 => f_X10_ahead_L60 a_6.1 y1 (nI k) y3 a_6.2) (M, 0)) (fun K => DR LK false m M k K ∧ ∀ j, k = j + 1 → ∀ v, v < 10 → K.1 117 v = oI (hv1 LK false (dyN LK false m j) v)) := by
  refine lp0 (fun i (N : Mm) => (N, nI i)) k (fun i K => DR LK false m M i K ∧ ∀ j, i = j + 1 → ∀ v, v < 10 → K.1 117 v = oI (hv1 LK false (dyN LK false m j) v)) (by omega) M rfl ⟨⟨h0, FrQ.rf⟩, fun j hj => by omega⟩ (fun i N hi hP => ?_) (fun N hP => ?_)
  · show Tr (f_X10_ahead_L60 N y1 (nI k) y3 (nI i)) _
    unfold f_X10_ahead_L60
    rw [if_neg (by rw [nI_leI (by omega) (by omega)]; omega)]
    refine Tr.bind (DR_step (dr := false) HL hI hR (by omega) hP.1) (fun r hr => ?_)
    obtain ⟨r1, r2, r3, r4⟩ := hr
    refine Tr.some (Or.inl ⟨r.2, by rw [l_1, nI_add], r2, fun j hj v hv => ?_⟩)
    have : j = i := by omega
    subst this
    exact r3 v hv
  · show Tr (f_X10_ahead_L60 N y1 (nI k) y3 (nI k)) _
    unfold f_X10_ahead_L60
    rw [if_pos (by rw [nI_leI (by omega) (by omega)]; omega)]
    exact Tr.some ⟨_, rfl, hP⟩
theorem s_29 (HL : LSpec LR LK) (hn : n < 512) (h : RR LR n Mc Mr) : ∃ Nc Nr, so_29 x1 x2 x3 x4 x5 Mc Mr Nc Nr ∧ RR LR (n + 1) Nc Nr := by
  have bad : ∀ (z : Nat) (w : Int32), f_X9_ahead Mc x1 x2 x3 = some (.inr (z, Mc)) → f_X10_ahead Mr x1 x2 x3 = f_X10_ahead_J41 Mr x1 x2 x3 w → [(2, (1 : Int32)), (1, 2), (4, 3)].lookup z = some w → 0 < w → ∃ Nc Nr, so_29 x1 x2 x3 x4 x5 Mc Mr Nc Nr ∧ RR LR (n + 1) Nc Nr := fun z w h1 h2 h3 h4 => by
    refine ⟨Mc, sI Mr 109 0 w, ⟨_, 0, h1, ?_, Or.inr ⟨z, rfl, by rw [t0]; exact h3, by rw [t0]; exact fun e => by rw [e] at h4; exact absurd h4 (by decide)⟩⟩, RR_q HL h KpC.rf ⟨rfl, rfl⟩ KpR.t⟩
    rw [h2]
    unfold f_X10_ahead_J41
    rw [Option.bind_some, t0, if_neg (by rw [Int32.not_le]; exact h4)]
  rcases needT h x1 with ⟨t, t1, rfl, u1, u2⟩ | ⟨u1, u2⟩
  · rcases ndC (Mc := Mc) (Mr := Mr) x2 with ⟨k, k1, rfl, n1, n2⟩ | ⟨n1, n2⟩
    · rcases rngI (M := Mr) 1 (by decide) x3 with ⟨c, c1, rfl, c2, c3, c4⟩ | ⟨c1, c2⟩
      · obtain ⟨hk, hkL, hM, hI, hR⟩ := h.cur
        have hT := hI.t
        have hV := hI.v
        obtain ⟨k2, k3, N, d1, d2, d3, d4⟩ := drC HL h
        have m2 := md4 k2
        have l1 := (lnL hkL).2.2.2.2.2
        have eN : N.2.2 1 = Mc.2.2 1 := (d3 1 (by simp; omega)).2.2
        obtain ⟨p, p1, p2, p3⟩ := aheadC HL hn h (M := N) ⟨by rw [eN], by rw [eN]⟩ ⟨d2, Fr.rf, d4⟩ k1 (nI t) (nI c)
        have e110 : (sI Mr 109 0 0).1 110 = Mr.1 110 := sI_fn (by decide)
        obtain ⟨A, a1, a2, a3, a4⟩ := asQ (M := sI Mr 109 0 0)
        rw [e110] at a2 a3
        obtain ⟨g, g1, g2, g3⟩ := aheadR HL hI (by omega) hR a3 k1 (nI t) (nI c)
        have a5 := a2.gone hI (by omega) g2
        obtain ⟨Q, b1, b2, b3, b4⟩ := a5.back
        have b5 : KpR Mr Q := KpR.t.tr (AS.kp (Mr := sI Mr 109 0 0) (by rw [e110]; exact b2) (b3.trans e110.symm))
        have z0 : gI Q 109 0 = 0 := (b2.1.2 0 (by simp)).trans t0
        have hDi := dyN_inv (LK := LK) (dr := false) hI k (by omega)
        have cr : f_X10_ahead Mr (nI t) (nI k) (nI c) = if nI c = 0 then some (dyN LK false (Mr.1 110) k (12 + 5 * t + 4), Q) else if nI k = 0 then some (0, Q) else (f_X10_hadBy g (nI t)).bind (fun r7 => f_X10_ahead_J105 g r7) := by
          have J : ∀ w, f_X10_ahead_J105 g w = some (w, Q) := fun w => by
            unfold f_X10_ahead_J105
            rw [b1, Option.bind_some]
          unfold f_X10_ahead f_X10_ahead_J41
          rw [u2, Option.bind_some, if_pos rfl, n2, if_pos rfl, show f_X10_isIn Mr (nI c) 0 1 = true from c4, if_pos rfl, Option.bind_some, t0, if_pos (by decide), a1, Option.bind_some, g1, Option.bind_some, show f_X10_of g (nI t) 4 = some (g.1 110 (12 + 5 * t + 4)) from ofR (c := 4) (by omega) (by decide), Option.bind_some, J, J, g2.1]
        have cc : f_X9_ahead Mc (nI t) (nI k) (nI c) = if nI c = 0 then some (.inl (dyN LK false (Mr.1 110) k (12 + 5 * t + 4), p)) else if nI k = 0 then some (.inl (0, p)) else (f_X6_hadBy p (nI t)).bind (fun r11 => some (.inl (r11, p))) := by
          unfold f_X9_ahead
          rw [u1, Option.bind_some, Sum.elim_inl, n1, Option.bind_some, Sum.elim_inl, if_neg c2, if_pos (show nI c ≤ 1 from c3), Option.bind_some, show gR Mc 1 4 = Mc.2.2 1 4 from rfl, if_pos k2, Option.bind_some, show gR Mc 1 3 = Mc.2.2 1 3 from rfl, if_pos hk, d1, Option.bind_some, p1, Option.bind_some, Option.bind_some, (stC HL h ⟨d2, Fr.rf, d4⟩ ⟨by rw [eN], by rw [eN]⟩ p2).1, if_pos k2, show f_X4_ofThing p (Mc.2.2 1 4) (nI t) 4 = _ from ofT (c := 4) k2 p2.1 (by omega) (by decide)]
        have fin : ∀ w : Int32, f_X9_ahead Mc (nI t) (nI k) (nI c) = some (.inl (w, p)) → f_X10_ahead Mr (nI t) (nI k) (nI c) = some (w, Q) → ∃ Nc Nr, so_29 (nI t) (nI k) (nI c) x4 x5 Mc Mr Nc Nr ∧ RR LR (n + 1) Nc Nr := fun w w1 w2 => ⟨p, Q, ⟨_, w, w1, w2, Or.inl ⟨rfl, z0⟩⟩, RR_dr HL h ((d3.mono (by simp)).tr p2.2.1) b5⟩
        by_cases f1 : nI c = 0
        · exact fin _ (by rw [cc, if_pos f1]) (by rw [cr, if_pos f1])
        · by_cases f2 : nI k = 0
          · exact fin _ (by rw [cc, if_neg f1, if_pos f2]) (by rw [cr, if_neg f1, if_pos f2])
          · have hk0 : k ≠ 0 := fun e => f2 (by rw [e]; rfl)
            obtain ⟨j, rfl⟩ : ∃ j, k = j + 1 := ⟨k - 1, by omega⟩
            have hDj := dyN_inv (LK := LK) (dr := false) hI j (by omega)
            have ho := (hv1_ok (LK := LK) (dr := false) (m := dyN LK false (Mr.1 110) j)).1
            rw [hDj.2.1, hDj.2.2.1] at ho
            have hb : ∀ v t, hv1 LK false (dyN LK false (Mr.1 110) j) v = some t → t < 2 ^ 31 := fun v t hv => by have := (ho v t hv).2; omega
            refine fin (bset (fun v => decide (hv1 LK false (dyN LK false (Mr.1 110) j) v = some t)) 10) ?_ ?_
            · rw [cc, if_neg f1, if_neg f2, hadByC (p3 j rfl) hb (by omega), Option.bind_some]
            · rw [cr, if_neg f1, if_neg f2, hadByR g2.1 hDi.1 (g3 j rfl) hb (by omega), Option.bind_some, hDi.2.2.1, had_set hV.2 (fun v t hv => (ho v t hv).1)]
              unfold f_X10_ahead_J105
              rw [b1, Option.bind_some]
      · refine bad 4 3 ?_ ?_ rfl (by decide)
        · unfold f_X9_ahead f_X9_ahead_J18
          rw [u1, Option.bind_some, Sum.elim_inl, n1, Option.bind_some, Sum.elim_inl]
          rcases c1 with c1 | ⟨c1, c3⟩
          · rw [if_pos c1]
          · rw [if_neg c1, if_neg (show ¬ x3 ≤ 1 from c3)]
        · unfold f_X10_ahead
          rw [u2, Option.bind_some, if_pos rfl, n2, if_pos rfl, show f_X10_isIn Mr x3 0 1 = false from c2, if_neg (by decide)]
    · refine bad 1 2 ?_ ?_ rfl (by decide)
      · unfold f_X9_ahead
        rw [u1, Option.bind_some, Sum.elim_inl, n1, Option.bind_some, Sum.elim_inr]
      · unfold f_X10_ahead
        rw [u2, Option.bind_some, if_pos rfl, n2, if_neg (by decide)]
  · refine bad 2 1 ?_ ?_ rfl (by decide)
    · unfold f_X9_ahead
      rw [u1, Option.bind_some, Sum.elim_inr]
    · unfold f_X10_ahead
      rw [u2, Option.bind_some, if_neg (by decide)]
end AHEAD
