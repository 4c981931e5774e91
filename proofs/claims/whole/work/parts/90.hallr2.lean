/-! the reference reads a line of the hall -/
section HALLR2
variable {M N : Mm} {e p r i j k n q B l a f : Nat} {tx : Nat → Int32} {x y v b lo hi : Int32} {w : Nat} {m m2 : Nat → Int32} {v2 v3 v4 v5 : Int32}
theorem J83F (h : Fl M e f) : f_X10_visitorLine_J83 M v2 v3 v4 v5 x = some M := by
  unfold f_X10_visitorLine_J83
  rw [if_neg h.ne]
theorem J82F (h : Fl M e f) : f_X10_visitorLine_J82 M v2 v3 v4 v5 = some M := J83F h
theorem vJ16F (h : Fl M e f) : f_X10_visitorLine_J16 M = some M := by
  unfold f_X10_visitorLine_J16
  rw [aftF h, Option.bind_some, aftF h, Option.bind_some, aftF h, Option.bind_some, aftF h, Option.bind_some, if_neg h.ne, J82F h]
theorem J83R {g : Nat} (hf : M.1 109 12 = -1) (hm : M.1 110 = m) (hI : Inv m B) (hV : vN m < 10) : Tr (f_X10_visitorLine_J83 M v2 v3 v4 v5 x) (fun N => FrH M N ∧ N.1 109 = M.1 109 ∧ N.1 110 = addV m v2 v3 v4 v5 x) := by
  have i4 : ibs (4 : Int32) 807 = true := by decide
  have gV : gA M 110 4 = nI (vN m) := by show M.1 110 4 = _; rw [hm]; exact hI.v.1
  unfold f_X10_visitorLine_J83
  rw [show gI M 109 12 = -1 from hf, if_pos rfl, if_pos i4, gV, show (57 : Int32) + 5 * nI (vN m) = nI (57 + 5 * vN m) from by rw [l_57, l_5, nI_mulI, nI_add], Option.bind_some]
  have p0 : nI (57 + 5 * vN m) + 0 = nI (57 + 5 * vN m + 0) := nI_add (a := 57 + 5 * vN m) (b := 0)
  have p1 : nI (57 + 5 * vN m) + 1 = nI (57 + 5 * vN m + 1) := nI_add (a := 57 + 5 * vN m) (b := 1)
  have p2 : nI (57 + 5 * vN m) + 2 = nI (57 + 5 * vN m + 2) := nI_add (a := 57 + 5 * vN m) (b := 2)
  have p3 : nI (57 + 5 * vN m) + 3 = nI (57 + 5 * vN m + 3) := nI_add (a := 57 + 5 * vN m) (b := 3)
  have p4 : nI (57 + 5 * vN m) + 4 = nI (57 + 5 * vN m + 4) := nI_add (a := 57 + 5 * vN m) (b := 4)
  rw [p0, p1, p2, p3, p4, if_pos (ib807 (by omega)), sA110 (by omega), Option.bind_some, if_pos (ib807 (by omega)), sA110 (by omega), Option.bind_some, if_pos (ib807 (by omega)), sA110 (by omega), Option.bind_some, if_pos (ib807 (by omega)), sA110 (by omega), Option.bind_some, if_pos (ib807 (by omega)), sA110 (by omega), Option.bind_some, if_pos i4, if_pos i4]
  generalize hK : sI (sI (sI (sI (sI M 110 (57 + 5 * vN m + 0) v2) 110 (57 + 5 * vN m + 1) v3) 110 (57 + 5 * vN m + 2) v4) 110 (57 + 5 * vN m + 3) v5) 110 (57 + 5 * vN m + 4) x = K
  have hK110 : K.1 110 = uk (uk (uk (uk (uk m (57 + 5 * vN m + 0) v2) (57 + 5 * vN m + 1) v3) (57 + 5 * vN m + 2) v4) (57 + 5 * vN m + 3) v5) (57 + 5 * vN m + 4) x := by
    rw [← hK, uk_110, uk_110, uk_110, uk_110, uk_110, hm]
  have hK109 : K.1 109 = M.1 109 := by
    rw [← hK, sI_fn (by decide), sI_fn (by decide), sI_fn (by decide), sI_fn (by decide), sI_fn (by decide)]
  have hKF : FrH M K := by
    rw [← hK]
    exact ((((FrH.s110 (by omega)).tr (FrH.s110 (by omega))).tr (FrH.s110 (by omega))).tr (FrH.s110 (by omega))).tr (FrH.s110 (by omega))
  have gK : gA K 110 4 = nI (vN m) := by
    show K.1 110 4 = _
    rw [hK110, uk_ne (by omega), uk_ne (by omega), uk_ne (by omega), uk_ne (by omega), uk_ne (by omega)]
    exact hI.v.1
  rw [gK, l_1, nI_add, show sA K 110 4 (nI (vN m + 1)) = sI K 110 4 (nI (vN m + 1)) from rfl, Option.bind_some]
  refine Tr.some ⟨hKF.tr (FrH.s110 (by decide)), ?_, ?_⟩
  · rw [sI_fn (by decide), hK109]
  · rw [uk_110, hK110]
    unfold addV
    rw [uk_cm (by omega), uk_cm (j := 57 + 5 * vN m + 3) (by omega), uk_cm (j := 57 + 5 * vN m + 2) (by omega), uk_cm (j := 57 + 5 * vN m + 1) (by omega), uk_cm (j := 57 + 5 * vN m + 0) (by omega)]
theorem visitorR (h : TxR M tx e) (hf : M.1 109 12 = -1) (ha : AtR M tx e (i + 1)) (hm : M.1 110 = m) (hI : Inv m B) (hV : vN m < 10) : Tr (f_X10_visitorLine_J16 M) (HoR tx e M (hVi tx e m i)) := by
  have he := h.1
  obtain ⟨-, -, -, w4, w5, w6, w7, w8, -⟩ := s_at
  have hf2 : ∀ a, (sAt M a).1 109 12 = -1 := fun a => (sAt_ne (by decide)).trans hf
  have hm2 : ∀ a, (sAt M a).1 110 = m := fun a => (sAt_fn (by decide)).trans hm
  have n0 : nmd tx e i 0 = named tx e 316 0 99 (i + 1) := rfl
  have n1 : nmd tx e i 1 = named tx e 317 0 9 (i + 3) := rfl
  have n2 : nmd tx e i 2 = named tx e 318 0 9 (i + 5) := rfl
  have n3 : nmd tx e i 3 = named tx e 305 0 100 (i + 7) := rfl
  have bad : ∀ c b d, c < 4 → (∀ d, d < c → nmd tx e i d = none) → nmd tx e i c = some b → d ≤ e → HoR tx e M (hVi tx e m i) (sI (sAt M d) 109 12 (nI (bg tx e b))) := fun c b d hc h1 h2 hd => by
    rw [hVi_some hc h1 h2]
    exact ⟨FrH.at.tr (FrH.s9 (Or.inr (Or.inl rfl))), Fl.of he hd (bg_le he b)⟩
  unfold f_X10_visitorLine_J16
  have k : match nmd tx e i 0 with | none => ∃ a, a ≤ e ∧ f_X10_after M 429 0 99 = some (vl tx e (i + 2), sAt M a) ∧ AtR (sAt M a) tx e (i + 3) | some c => ∃ x a, a ≤ e ∧ f_X10_after M 429 0 99 = some (x, sI (sAt M a) 109 12 (nI (bg tx e c))) := afterT (lo := 0) (hi := 99) (j := 16) h hf ha (by decide) (iT (k := 29) (by decide)) w4 (by decide)
  cases d0 : nmd tx e i 0 with
  | some c =>
    rw [d0] at k
    obtain ⟨x, d, d1, d2⟩ := k
    have hfl := Fl.of (M := M) he d1 (bg_le (tx := tx) he c)
    rw [d2, Option.bind_some, aftF hfl, Option.bind_some, aftF hfl, Option.bind_some, aftF hfl, Option.bind_some, if_neg hfl.ne, J82F hfl]
    exact Tr.some (bad 0 c d (by decide) (fun d hd => absurd hd (Nat.not_lt_zero d)) d0 d1)
  | none =>
    rw [d0] at k
    obtain ⟨a, a1, a2, a3⟩ := k
    rw [a2, Option.bind_some]
    have k : match nmd tx e i 1 with | none => ∃ b, b ≤ e ∧ f_X10_after (sAt M a) 430 0 9 = some (vl tx e (i + 4), sAt (sAt M a) b) ∧ AtR (sAt (sAt M a) b) tx e (i + 5) | some c => ∃ x b, b ≤ e ∧ f_X10_after (sAt M a) 430 0 9 = some (x, sI (sAt (sAt M a) b) 109 12 (nI (bg tx e c))) := afterT (lo := 0) (hi := 9) (j := 17) h.at (hf2 a) a3 (by decide) (iT (k := 30) (by decide)) w5 (by decide)
    skip
    cases d1 : nmd tx e i 1 with
    | some c =>
      rw [d1] at k
      obtain ⟨x, d, e1, e2⟩ := k
      rw [sAt_sAt] at e2
      have hfl := Fl.of (M := M) he e1 (bg_le (tx := tx) he c)
      rw [e2, Option.bind_some, aftF hfl, Option.bind_some, aftF hfl, Option.bind_some, if_neg hfl.ne, J82F hfl]
      exact Tr.some (bad 1 c d (by decide) (fun d hd => by rw [show d = 0 by omega]; exact d0) d1 e1)
    | none =>
      rw [d1] at k
      obtain ⟨b, b1, b2, b3⟩ := k
      rw [sAt_sAt] at b2 b3
      rw [b2, Option.bind_some]
      have k : match nmd tx e i 2 with | none => ∃ c, c ≤ e ∧ f_X10_after (sAt M b) 431 0 9 = some (vl tx e (i + 6), sAt (sAt M b) c) ∧ AtR (sAt (sAt M b) c) tx e (i + 7) | some c => ∃ x d, d ≤ e ∧ f_X10_after (sAt M b) 431 0 9 = some (x, sI (sAt (sAt M b) d) 109 12 (nI (bg tx e c))) := afterT (lo := 0) (hi := 9) (j := 18) h.at (hf2 b) b3 (by decide) (iT (k := 31) (by decide)) w6 (by decide)
      cases d2 : nmd tx e i 2 with
      | some c =>
        rw [d2] at k
        obtain ⟨x, d, e1, e2⟩ := k
        rw [sAt_sAt] at e2
        have hfl := Fl.of (M := M) he e1 (bg_le (tx := tx) he c)
        rw [e2, Option.bind_some, aftF hfl, Option.bind_some, if_neg hfl.ne, J82F hfl]
        exact Tr.some (bad 2 c d (by decide) (fun d hd => by
          have : d = 0 ∨ d = 1 := by omega
          rcases this with rfl | rfl
          · exact d0
          · exact d1) d2 e1)
      | none =>
        rw [d2] at k
        obtain ⟨c, c1, c2, c3⟩ := k
        rw [sAt_sAt] at c2 c3
        rw [c2, Option.bind_some]
        have k : match nmd tx e i 3 with | none => ∃ d, d ≤ e ∧ f_X10_after (sAt M c) 442 0 100 = some (vl tx e (i + 8), sAt (sAt M c) d) ∧ AtR (sAt (sAt M c) d) tx e (i + 9) | some g => ∃ x d, d ≤ e ∧ f_X10_after (sAt M c) 442 0 100 = some (x, sI (sAt (sAt M c) d) 109 12 (nI (bg tx e g))) := afterT (lo := 0) (hi := 100) (j := 5) h.at (hf2 c) c3 (by decide) (iT (k := 42) (by decide)) w7 (by decide)
        have hall3 : ∀ d, d < 3 → nmd tx e i d = none := fun d hd => by
          have : d = 0 ∨ d = 1 ∨ d = 2 := by omega
          rcases this with rfl | rfl | rfl
          · exact d0
          · exact d1
          · exact d2
        cases d3 : nmd tx e i 3 with
        | some g =>
          rw [d3] at k
          obtain ⟨x, d, e1, e2⟩ := k
          rw [sAt_sAt] at e2
          have hfl := Fl.of (M := M) he e1 (bg_le (tx := tx) he g)
          rw [e2, Option.bind_some, if_neg hfl.ne, J82F hfl]
          exact Tr.some (bad 3 g d (by decide) hall3 d3 e1)
        | none =>
          rw [d3] at k
          obtain ⟨d, e1, e2, e3⟩ := k
          rw [sAt_sAt] at e2 e3
          have hall : ∀ d, d < 4 → nmd tx e i d = none := fun d hd => by
            by_cases hd3 : d = 3
            · rw [hd3]; exact d3
            · exact hall3 d (by omega)
          rw [e2, Option.bind_some, show gI (sAt M d) 109 12 = -1 from hf2 d, if_pos rfl, hVi_none hall]
          obtain ⟨s, s1, s2, s3, s4⟩ := saysT h.at e3 (j := 6) (by decide) (iT (k := 43) (by decide)) w8
          rw [sAt_sAt] at s2 s3
          rw [show f_X10_says (sAt M d) 443 = _ from s2, Option.bind_some]
          by_cases c9 : wdT tx e (i + 9) = 306
          · rw [if_pos (show wdT tx e (i + 9) = 300 + 6 from c9)] at s3
            rw [decide_eq_true (show wdT tx e (i + 9) = 300 + 6 from c9), if_pos rfl, if_pos c9]
            obtain ⟨k1, k2⟩ := marksT h.at (hf2 s) s3
            by_cases c10 : wdT tx e (i + 10) = 329 ∧ vl tx e (i + 10) ≠ -1
            · rw [if_pos c10]
              obtain ⟨u, z, u1, u2, u3, u4, u5⟩ := k1 c10
              rw [sAt_sAt] at u4 u5
              have u4 : f_X10_marks (sAt M s) = some (vl tx e (i + 10), sAt M u) := u4
              rw [u4, Option.bind_some]
              obtain ⟨K, o1, o2, o3, o4⟩ := J83R (g := 0) (v2 := vl tx e (i + 2)) (v3 := vl tx e (i + 4)) (v4 := vl tx e (i + 6)) (v5 := vl tx e (i + 8)) (x := vl tx e (i + 10)) (hf2 u) (hm2 u) hI hV
              obtain ⟨t, t1, t2, t3⟩ := u5
              rw [o1]
              exact Tr.some ⟨FrH.at.tr o2, by rw [o3]; exact hf2 u, o4, t, by rw [o3]; exact t1, t2, t3⟩
            · rw [if_neg c10]
              obtain ⟨x, u, u1, u2⟩ := k2 c10
              rw [sAt_sAt] at u2
              have hfl := Fl.of (M := M) he u1 (bg_le (tx := tx) he (i + 9 + 1))
              rw [u2, Option.bind_some, J83F hfl]
              exact Tr.some ⟨FrH.at.tr (FrH.s9 (Or.inr (Or.inl rfl))), hfl⟩
          · rw [if_neg (show ¬ wdT tx e (i + 9) = 300 + 6 from c9)] at s3
            rw [decide_eq_false (show ¬ wdT tx e (i + 9) = 300 + 6 from c9), if_neg (show ¬ false = true by decide), if_neg c9]
            unfold f_X10_visitorLine_J82
            obtain ⟨K, o1, o2, o3, o4⟩ := J83R (g := 0) (v2 := vl tx e (i + 2)) (v3 := vl tx e (i + 4)) (v4 := vl tx e (i + 6)) (v5 := vl tx e (i + 8)) (x := 0) (hf2 s) (hm2 s) hI hV
            obtain ⟨t, t1, t2, t3⟩ := s3
            rw [o1]
            exact Tr.some ⟨FrH.at.tr o2, by rw [o3]; exact hf2 s, o4, t, by rw [o3]; exact t1, t2, t3⟩
theorem hallLR (h : TxR M tx e) (hf : M.1 109 12 = -1) (ha : AtR M tx e i) (hm : M.1 110 = m) (hI : Inv m B) : Tr (f_X10_hallLine M) (HoR tx e M (hL tx e m i)) := by
  have he := h.1
  obtain ⟨-, -, -, -, -, -, -, -, w9, w10, w11, w12⟩ := s_at
  have hf2 : ∀ a, (sAt M a).1 109 12 = -1 := fun a => (sAt_ne (by decide)).trans hf
  have hm2 : ∀ a, (sAt M a).1 110 = m := fun a => (sAt_fn (by decide)).trans hm
  have hT := hI.t
  have hV := hI.v
  have i3 : ibs (3 : Int32) 807 = true := by decide
  have i4 : ibs (4 : Int32) 807 = true := by decide
  have i5 : ibs (5 : Int32) 807 = true := by decide
  have hbi := bg_le (tx := tx) he i
  obtain ⟨pl, pa⟩ := placeT h ha
  unfold f_X10_hallLine f_X10_place
  rw [pl, Option.bind_some, Option.bind_some, show gI (sAt M (bg tx e i)) 109 11 = nI (bg tx e i) from at_sAt]
  obtain ⟨a, a1, a2, a3, a4⟩ := saysT h.at pa (j := 0) (by decide) (iT (k := 37) (by decide)) w9
  rw [sAt_sAt] at a2 a3
  rw [show f_X10_says (sAt M (bg tx e i)) 437 = _ from a2, Option.bind_some]
  have nf : ∀ {z : Nat}, ¬ wdT tx e i = z → decide (wdT tx e i = z) = false := fun hz => decide_eq_false hz
  by_cases c1 : wdT tx e i = 300
  · rw [if_pos (show wdT tx e i = 300 + 0 from c1)] at a3
    rw [decide_eq_true (show wdT tx e i = 300 + 0 from c1), if_pos rfl]
    unfold f_X10_thingLine
    rw [if_pos i3, show gA (sAt M a) 110 3 = nI (tN m) from by show (sAt M a).1 110 3 = _; rw [hm2 a]; exact hT.1]
    by_cases c2 : tN m < 9
    · rw [if_neg (show ¬ nI (tN m) = 9 by rw [l_9, nI_eq (by omega) (by omega)]; omega)]
      have eh : hL tx e m i = hTh tx e m i := by unfold hL; rw [if_pos ⟨c1, c2⟩]
      rw [eh]
      obtain ⟨K, k1, k2, k3⟩ := thingR h.at (hf2 a) a3 (hm2 a) hI c2
      rw [k1, Option.bind_some]
      exact Tr.some ⟨FrH.at.tr k2, k3⟩
    · rw [if_pos (show nI (tN m) = 9 by rw [show tN m = 9 by omega]; rfl), wrongR (hf2 a), Option.bind_some]
      have eh : hL tx e m i = .inl i := by
        unfold hL
        rw [if_neg (fun hh => c2 hh.2), if_neg (by rw [c1]; omega), if_neg (by rw [c1]; omega), if_neg (by rw [c1]; omega)]
      rw [eh]
      have hfl := Fl.of (M := M) he a1 hbi
      obtain ⟨d, d1, d2⟩ := J16F hfl ((h.at (a := a)).sI9 (by decide) (by decide))
      rw [d2, Option.bind_some]
      exact Tr.some ⟨(FrH.at.tr (FrH.s9 (Or.inr (Or.inl rfl)))).tr FrH.at, hfl.at d1⟩
  · rw [if_neg (show ¬ wdT tx e i = 300 + 0 from c1)] at a3
    rw [decide_eq_false (show ¬ wdT tx e i = 300 + 0 from c1), if_neg (show ¬ false = true by decide)]
    obtain ⟨b, b1, b2, b3, b4⟩ := saysT h.at a3 (j := 4) (by decide) (iT (k := 41) (by decide)) w10
    rw [sAt_sAt] at b2 b3
    rw [show f_X10_says (sAt M a) 441 = _ from b2, Option.bind_some]
    by_cases c2 : wdT tx e i = 304
    · rw [if_pos (show wdT tx e i = 300 + 4 from c2)] at b3
      rw [decide_eq_true (show wdT tx e i = 300 + 4 from c2), if_pos rfl]
      unfold f_X10_visitorLine
      rw [if_pos i4, show gA (sAt M b) 110 4 = nI (vN m) from by show (sAt M b).1 110 4 = _; rw [hm2 b]; exact hV.1]
      by_cases c3 : vN m < 10
      · rw [if_neg (show ¬ nI (vN m) = 10 by rw [l_10, nI_eq (by omega) (by omega)]; omega)]
        have eh : hL tx e m i = hVi tx e m i := by unfold hL; rw [if_neg (fun hh => c1 hh.1), if_pos ⟨c2, c3⟩]
        rw [eh]
        obtain ⟨K, k1, k2, k3⟩ := visitorR h.at (hf2 b) b3 (hm2 b) hI c3
        rw [k1, Option.bind_some]
        exact Tr.some ⟨FrH.at.tr k2, k3⟩
      · rw [if_pos (show nI (vN m) = 10 by rw [show vN m = 10 by omega]; rfl), wrongR (hf2 b), Option.bind_some]
        have eh : hL tx e m i = .inl i := by
          unfold hL
          rw [if_neg (fun hh => c1 hh.1), if_neg (fun hh => c3 hh.2), if_neg (by rw [c2]; omega), if_neg (by rw [c2]; omega)]
        rw [eh]
        have hfl := Fl.of (M := M) he b1 hbi
        rw [vJ16F hfl, Option.bind_some]
        exact Tr.some ⟨FrH.at.tr (FrH.s9 (Or.inr (Or.inl rfl))), hfl⟩
    · rw [if_neg (show ¬ wdT tx e i = 300 + 4 from c2)] at b3
      rw [decide_eq_false (show ¬ wdT tx e i = 300 + 4 from c2), if_neg (show ¬ false = true by decide)]
      obtain ⟨c, g1, g2, g3, g4⟩ := saysT h.at b3 (j := 7) (by decide) (iT (k := 44) (by decide)) w11
      rw [sAt_sAt] at g2 g3
      rw [show f_X10_says (sAt M b) 444 = _ from g2, Option.bind_some]
      by_cases c3 : wdT tx e i = 307
      · rw [if_pos (show wdT tx e i = 300 + 7 from c3)] at g3
        rw [decide_eq_true (show wdT tx e i = 300 + 7 from c3), if_pos rfl]
        have eh : hL tx e m i = if nm tx e 1 9 (i + 1) = true then .inr (uk m 5 (vl tx e (i + 1)), i + 2) else .inl (i + 1) := by
          unfold hL named
          rw [if_neg (fun hh => c1 hh.1), if_neg (fun hh => c2 hh.1), if_pos c3, if_pos c3]
          by_cases f : nm tx e 1 9 (i + 1) = true
          · rw [if_pos f, if_pos f]
          · rw [if_neg f, if_neg f]
        rw [eh]
        obtain ⟨k1, k2⟩ := figT (lo := 1) (hi := 9) h.at (hf2 c) g3 (by decide)
        by_cases f : nm tx e 1 9 (i + 1) = true
        · rw [if_pos f]
          obtain ⟨d, d1, d2, d3⟩ := k1 (nm_iff.mp f)
          rw [sAt_sAt] at d2 d3
          rw [d2, Option.bind_some, show gI (sAt M d) 109 12 = -1 from hf2 d, if_pos rfl, if_pos i5, show sA (sAt M d) 110 5 (vl tx e (i + 1)) = sI (sAt M d) 110 5 (vl tx e (i + 1)) from rfl, Option.bind_some]
          obtain ⟨t, t1, t2, t3⟩ := d3
          refine Tr.some ⟨FrH.at.tr (FrH.s110 (by decide)), ?_, ?_, t, ?_, t2, t3⟩
          · rw [sI_fn (by decide)]; exact hf2 d
          · rw [uk_110, hm2 d]
          · rw [sI_fn (by decide)]; exact t1
        · rw [if_neg f]
          obtain ⟨x, d, d1, d2⟩ := k2 (fun hh => f (nm_iff.mpr hh))
          rw [sAt_sAt] at d2
          have hfl := Fl.of (M := M) he d1 (bg_le (tx := tx) he (i + 1))
          rw [d2, Option.bind_some, if_neg hfl.ne]
          exact Tr.some ⟨FrH.at.tr (FrH.s9 (Or.inr (Or.inl rfl))), hfl⟩
      · rw [if_neg (show ¬ wdT tx e i = 300 + 7 from c3)] at g3
        rw [decide_eq_false (show ¬ wdT tx e i = 300 + 7 from c3), if_neg (show ¬ false = true by decide)]
        obtain ⟨d, q1, q2, q3, q4⟩ := saysT h.at g3 (j := 8) (by decide) (iT (k := 45) (by decide)) w12
        rw [sAt_sAt] at q2 q3
        rw [show f_X10_says (sAt M c) 445 = _ from q2, Option.bind_some]
        by_cases c4 : wdT tx e i = 308
        · rw [if_pos (show wdT tx e i = 300 + 8 from c4)] at q3
          rw [decide_eq_true (show wdT tx e i = 300 + 8 from c4), if_pos rfl]
          have eh : hL tx e m i = if nm tx e 0 (nI (tN m) - 1) (i + 1) = true then .inr (uk m (12 + 5 * (vl tx e (i + 1)).toNatClampNeg + 3) 0, i + 2) else .inl (i + 1) := by
            unfold hL named
            rw [if_neg (fun hh => c1 hh.1), if_neg (fun hh => c2 hh.1), if_neg c3, if_pos c4, if_pos c4]
            by_cases f : nm tx e 0 (nI (tN m) - 1) (i + 1) = true
            · rw [if_pos f, if_pos f]
            · rw [if_neg f, if_neg f]
          rw [eh, if_pos i3, show gA (sAt M d) 110 3 = nI (tN m) from by show (sAt M d).1 110 3 = _; rw [hm2 d]; exact hT.1]
          have hlt : nI (tN m) - 1 < nI 1000 := by
            by_cases f : tN m = 0
            · rw [f]; decide
            · rw [l_1, nI_subI (by omega), nI_ltI (by omega) (by omega)]; omega
          obtain ⟨k1, k2⟩ := figT (lo := 0) (hi := nI (tN m) - 1) h.at (hf2 d) q3 hlt
          by_cases f : nm tx e 0 (nI (tN m) - 1) (i + 1) = true
          · rw [if_pos f]
            obtain ⟨z1, z2, z3⟩ := nm_iff.mp f
            obtain ⟨z, z4, z5⟩ := vl_num h.tt z1
            have zT : z < tN m := by
              rw [z4] at z3
              by_cases f : tN m = 0
              · exfalso
                refine z3 ?_
                rw [f, Int32.lt_iff_toInt_lt, nI_toInt (by omega)]
                have : (nI 0 - 1 : Int32).toInt = -1 := rfl
                omega
              · rw [l_1, nI_subI (by omega), nI_ltI (by omega) (by omega)] at z3
                omega
            obtain ⟨d, d1, d2, d3⟩ := k1 ⟨z1, z2, z3⟩
            rw [sAt_sAt] at d2 d3
            rw [d2, Option.bind_some, show gI (sAt M d) 109 12 = -1 from hf2 d, if_pos rfl, z4, show (12 : Int32) + 5 * nI z + 3 = nI (12 + 5 * z + 3) from ix5 (b := 12) (c := 3), if_pos (ib807 (by omega)), sA110 (by omega), Option.bind_some, nI_clamp (by omega)]
            obtain ⟨t, t1, t2, t3⟩ := d3
            refine Tr.some ⟨FrH.at.tr (FrH.s110 (by omega)), ?_, ?_, t, ?_, t2, t3⟩
            · rw [sI_fn (by decide)]; exact hf2 d
            · rw [uk_110, hm2 d]
            · rw [sI_fn (by decide)]; exact t1
          · rw [if_neg f]
            obtain ⟨x, d, d1, d2⟩ := k2 (fun hh => f (nm_iff.mpr hh))
            rw [sAt_sAt] at d2
            have hfl := Fl.of (M := M) he d1 (bg_le (tx := tx) he (i + 1))
            rw [d2, Option.bind_some, if_neg hfl.ne]
            exact Tr.some ⟨FrH.at.tr (FrH.s9 (Or.inr (Or.inl rfl))), hfl⟩
        · rw [if_neg (show ¬ wdT tx e i = 300 + 8 from c4)] at q3
          rw [decide_eq_false (show ¬ wdT tx e i = 300 + 8 from c4), if_neg (show ¬ false = true by decide)]
          have eh : hL tx e m i = .inl i := by
            unfold hL
            rw [if_neg (fun hh => c1 hh.1), if_neg (fun hh => c2 hh.1), if_neg c3, if_neg c4]
          rw [eh, q4 c4, show gI (sAt M (bg tx e i)) 109 11 = nI (bg tx e i) from at_sAt, wrongR (hf2 _), Option.bind_some]
          exact Tr.some ⟨FrH.at.tr (FrH.s9 (Or.inr (Or.inl rfl))), Fl.of he hbi hbi⟩
end HALLR2
