/-! the reference reads the lines of the hall -/
section HALLR
variable {M N : Mm} {e p r i j k n q B l a f : Nat} {tx : Nat → Int32} {x y v b lo hi : Int32} {w : Nat} {m m2 : Nat → Int32}
theorem TxR.tt (h : TxR M tx e) : TT tx e := ⟨h.1, h.2.2.2⟩
/-- a fault is noted -/
def Fl (M : Mm) (e f : Nat) : Prop := f ≤ e ∧ e ≤ 400 ∧ M.1 109 12 = nI f ∧ ∃ a, a ≤ e + 9 ∧ M.1 109 11 = nI a
theorem Fl.ne (h : Fl M e f) : gI M 109 12 ≠ -1 := by
  have : gI M 109 12 = nI f := h.2.2.1
  rw [this, Ne, nI_ne_m1 (by have := h.1; have := h.2.1; omega)]
  exact not_false
theorem Fl.of (he : e ≤ 400) (ha : a ≤ e) (hf : f ≤ e) : Fl (sI (sAt M a) 109 12 (nI f)) e f := ⟨hf, he, by rw [sI_at, if_pos ⟨rfl, rfl⟩], a, by omega, by rw [sI_at, if_neg (by omega)]; exact at_sAt⟩
theorem Fl.at (h : Fl M e f) (ha : a ≤ e + 9) : Fl (sAt M a) e f := ⟨h.1, h.2.1, (sAt_ne (by decide)).trans h.2.2.1, a, ha, at_sAt⟩
theorem figF (h : Fl M e f) : f_X10_figures M lo hi = some (0, M) := by
  unfold f_X10_figures
  rw [if_neg h.ne]
theorem aftF (h : Fl M e f) (w : Nat) : f_X10_after M w lo hi = some (0, M) := by
  unfold f_X10_after f_X10_after_J24
  rw [if_neg h.ne, figF h, Option.bind_some]
theorem wrgF (h : Fl M e f) : f_X10_wrong M x = M := wrongR2 h.ne
theorem skipF (h : Fl M e f) (hx : TxR M tx e) : ∃ a, a ≤ e + 9 ∧ f_X10_skip M = some (sAt M a) := by
  obtain ⟨a, a1, a2⟩ := h.2.2.2
  have he := h.2.1
  by_cases c : a ≤ e
  · exact ⟨_, by have := sk_le (tx := tx) he c; omega, skipR hx a2 c⟩
  · refine ⟨a, a1, ?_⟩
    unfold f_X10_skip
    have : loop FU (fun a_3 => f_X10_skip_L0 a_3) M = some M := by
      refine (lp0 (Q := fun r : Mm => r = M) (fun i (_ : Unit) => M) 0 (fun _ _ => True) (by omega) () rfl trivial (fun i _ hi _ => by omega) (fun _ _ => ?_)).eq
      show Tr (f_X10_skip_L0 M) _
      unfold f_X10_skip_L0
      rw [show gI M 109 11 = nI a from a2, show gI M 109 10 = nI e from hx.2.1, if_pos (by rw [nI_leI (by omega) (by omega)]; omega)]
      exact Tr.some ⟨_, rfl, rfl⟩
    rw [this, Option.bind_some, sAt, sI_self a2]
/-- what is left alone: all but the place, the fault, the depth, and the museum's part of the row -/
def FrH (M N : Mm) : Prop := Fr [109, 110] M N ∧ (∀ c, c ≠ 11 → c ≠ 12 → c ≠ 13 → N.1 109 c = M.1 109 c) ∧ ∀ k, 407 ≤ k → N.1 110 k = M.1 110 k
theorem FrH.rf : FrH M M := ⟨Fr.rf, fun _ _ _ _ => rfl, fun _ _ => rfl⟩
theorem FrH.tr {K : Mm} (h : FrH M N) (h2 : FrH N K) : FrH M K := ⟨h.1.tr h2.1, fun c c1 c2 c3 => (h2.2.1 c c1 c2 c3).trans (h.2.1 c c1 c2 c3), fun k hk => (h2.2.2 k hk).trans (h.2.2 k hk)⟩
theorem FrH.s9 {c : Nat} (h : c = 11 ∨ c = 12 ∨ c = 13) : FrH M (sI M 109 c x) := ⟨Fr.sI (by simp), fun d h1 h2 h3 => by rw [sI_at, if_neg (by omega)], fun k _ => by rw [sI_fn (by decide)]⟩
theorem FrH.at : FrH M (sAt M a) := FrH.s9 (Or.inl rfl)
theorem FrH.s110 {k : Nat} (h : k < 407) : FrH M (sI M 110 k x) := ⟨Fr.sI (by simp), fun d _ _ _ => by rw [sI_fn (by decide)], fun j hj => by rw [sI_at, if_neg (by omega)]⟩
theorem TxR.frH (h : TxR M tx e) (hF : FrH M N) : TxR N tx e := h.fr (hF.2.1 9 (by decide) (by decide) (by decide)) (hF.2.1 10 (by decide) (by decide) (by decide)) (hF.1 114 (by simp)).1 hF.2.2
theorem bg_m1 (he : e ≤ 400) : nI (bg tx e i) ≠ -1 := by
  have := bg_le (tx := tx) he i
  rw [Ne, nI_ne_m1 (by omega)]
  exact not_false
/-- a word, and a number behind it -/
theorem afterT (h : TxR M tx e) (hf : M.1 109 12 = -1) (ha : AtR M tx e i) (hj : j < 22) {q : Nat} (hq : isT q = true) (hs : str q = sw1 j) (hhi : hi < nI 1000) : match named tx e (300 + j) lo hi i with | none => ∃ a, a ≤ e ∧ f_X10_after M q lo hi = some (vl tx e (i + 1), sAt M a) ∧ AtR (sAt M a) tx e (i + 2) | some b => ∃ x a, a ≤ e ∧ f_X10_after M q lo hi = some (x, sI (sAt M a) 109 12 (nI (bg tx e b))) := by
  have he := h.1
  obtain ⟨a, a1, a2, a3, a4⟩ := saysT h ha hj hq hs
  have hf2 : (sAt M a).1 109 12 = -1 := (sAt_ne (by decide)).trans hf
  unfold f_X10_after f_X10_after_J24 named
  rw [show gI M 109 12 = -1 from hf, if_pos rfl, a2, Option.bind_some]
  by_cases c : wdT tx e i = 300 + j
  · rw [if_pos c] at a3
    rw [decide_eq_true c, if_pos rfl, if_pos c]
    obtain ⟨k1, k2⟩ := figT (lo := lo) (hi := hi) h.at hf2 a3 hhi
    by_cases d : nm tx e lo hi (i + 1) = true
    · rw [if_pos d]
      obtain ⟨b, b1, b2, b3⟩ := k1 (nm_iff.mp d)
      rw [sAt_sAt] at b2 b3
      exact ⟨b, b1, by rw [b2, Option.bind_some], b3⟩
    · rw [if_neg d]
      obtain ⟨x, b, b1, b2⟩ := k2 (fun hh => d (nm_iff.mpr hh))
      rw [sAt_sAt] at b2
      exact ⟨x, b, b1, by rw [b2, Option.bind_some]⟩
  · rw [if_neg c] at a3
    rw [decide_eq_false c, if_neg (show ¬ false = true by decide), if_neg c]
    obtain ⟨d, d1, d2, d3⟩ := a3
    -- the place: the word that is not there
    have hb : gI (sAt M a) 109 11 = nI (bg tx e i) := by rw [← a4 c]; exact at_sAt
    rw [hb, wrongR hf2, Option.bind_some, figF (Fl.of (M := M) he a1 (bg_le he i)), Option.bind_some]
    exact ⟨0, a, a1, rfl⟩
/-- how the reference's memory stands behind a line -/
def HoR (tx : Nat → Int32) (e : Nat) (M : Mm) (o : Nat ⊕ ((Nat → Int32) × Nat)) (N : Mm) : Prop := FrH M N ∧ match o with | .inl b => Fl N e (bg tx e b) | .inr (m2, j) => N.1 109 12 = -1 ∧ N.1 110 = m2 ∧ AtR N tx e j
theorem J76F (h : Fl M e f) : f_X10_thingLine_J76 M x = some M := by
  unfold f_X10_thingLine_J76
  rw [aftF h, Option.bind_some, aftF h, Option.bind_some, if_neg h.ne]
theorem J41F (h : Fl M e f) (hx : TxR M tx e) : ∃ a, a ≤ e + 9 ∧ f_X10_thingLine_J41 M = some (sAt M a) := by
  obtain ⟨a, a1, a2⟩ := skipF h hx
  have h2 := h.at (a := a) a1
  refine ⟨a, a1, ?_⟩
  unfold f_X10_thingLine_J41 f_X10_place
  rw [a2, Option.bind_some, Option.bind_some, figF h2, Option.bind_some, if_neg h2.ne, J76F h2]
theorem J16F (h : Fl M e f) (hx : TxR M tx e) : ∃ a, a ≤ e + 9 ∧ f_X10_thingLine_J16 M = some (sAt M a) := by
  unfold f_X10_thingLine_J16
  rw [if_neg h.ne]
  exact J41F h hx
theorem iT (h : k < 75) : isT (400 + k) = true := by simp [isT]; omega
theorem s_at : str 438 = sw1 1 ∧ str 439 = sw1 2 ∧ str 440 = sw1 3 ∧ str 429 = sw1 16 ∧ str 430 = sw1 17 ∧ str 431 = sw1 18 ∧ str 442 = sw1 5 ∧ str 443 = sw1 6 ∧ str 437 = sw1 0 ∧ str 441 = sw1 4 ∧ str 444 = sw1 7 ∧ str 445 = sw1 8 := by decide +kernel
theorem thingR (h : TxR M tx e) (hf : M.1 109 12 = -1) (ha : AtR M tx e (i + 1)) (hm : M.1 110 = m) (hI : Inv m B) (hT : tN m < 9) : Tr (f_X10_thingLine_J16 M) (HoR tx e M (hTh tx e m i)) := by
  have he := h.1
  obtain ⟨w1, w2, w3, -⟩ := s_at
  obtain ⟨a, a1, a2, a3, a4⟩ := saysT h ha (j := 1) (by decide) (iT (k := 38) (by decide)) w1
  have hf2 : ∀ a, (sAt M a).1 109 12 = -1 := fun a => (sAt_ne (by decide)).trans hf
  have hm2 : ∀ a, (sAt M a).1 110 = m := fun a => (sAt_fn (by decide)).trans hm
  unfold f_X10_thingLine_J16 hTh
  rw [show gI M 109 12 = -1 from hf, if_pos rfl, show f_X10_says M 438 = _ from a2, Option.bind_some]
  by_cases c1 : wdT tx e (i + 1) = 301
  · rw [if_pos (show wdT tx e (i + 1) = 300 + 1 from c1)] at a3
    rw [decide_eq_true (show wdT tx e (i + 1) = 300 + 1 from c1), if_pos rfl, if_pos c1]
    obtain ⟨pl, pa⟩ := placeT h.at a3
    rw [sAt_sAt] at pl pa
    unfold f_X10_thingLine_J41 f_X10_place
    rw [pl, Option.bind_some, Option.bind_some, show gI (sAt M (bg tx e (i + 1 + 1))) 109 11 = nI (bg tx e (i + 2)) from at_sAt]
    obtain ⟨k1, k2⟩ := figT (lo := 0) (hi := 19) h.at (hf2 _) pa (by decide)
    by_cases c2 : nm tx e 0 19 (i + 2) = true
    · rw [if_pos c2]
      obtain ⟨b, b1, b2, b3⟩ := k1 (nm_iff.mp c2)
      rw [sAt_sAt] at b2 b3
      have b2 : f_X10_figures (sAt M (bg tx e (i + 1 + 1))) 0 19 = some (vl tx e (i + 2), sAt M b) := b2
      have b3 : AtR (sAt M b) tx e (i + 3) := b3
      obtain ⟨z1, z2, z3, z4⟩ := nm_val (l := 0) (n := 19) h.tt (by decide) (by decide) c2
      rw [b2, Option.bind_some, show gI (sAt M b) 109 12 = -1 from hf2 b, if_pos rfl, atCellR (hm2 b) hI, Option.bind_some]
      cases hc : atCell m (vl tx e (i + 2)) with
      | some t =>
        have htt := (fnd_ok hc).1
        rw [if_neg (show ¬ oI (some t) = -1 from by rw [oI, nI_ne_m1 (by omega)]; exact not_false), wrongR (hf2 b), Option.bind_some, if_pos (show (some t).isSome = true from rfl), J76F (Fl.of (M := M) he b1 (bg_le he (i + 2)))]
        exact Tr.some ⟨FrH.at.tr (FrH.s9 (Or.inr (Or.inl rfl))), Fl.of he b1 (bg_le he (i + 2))⟩
      | none =>
        rw [if_pos (show oI none = -1 from rfl), if_neg (show ¬ (none : Option Nat).isSome = true by decide)]
        unfold f_X10_thingLine_J76
        have k := afterT (lo := 0) (hi := 99) (j := 2) h.at (hf2 b) b3 (by decide) (iT (k := 39) (by decide)) w2 (by decide)
        have k : match named tx e 302 0 99 (i + 3) with | none => ∃ a, a ≤ e ∧ f_X10_after (sAt M b) 439 0 99 = some (vl tx e (i + 4), sAt (sAt M b) a) ∧ AtR (sAt (sAt M b) a) tx e (i + 5) | some c => ∃ x a, a ≤ e ∧ f_X10_after (sAt M b) 439 0 99 = some (x, sI (sAt (sAt M b) a) 109 12 (nI (bg tx e c))) := k
        cases hn : named tx e 302 0 99 (i + 3) with
        | some c =>
          rw [hn] at k
          obtain ⟨x, d, d1, d2⟩ := k
          rw [sAt_sAt] at d2
          have hfl := Fl.of (M := M) he d1 (bg_le (tx := tx) he c)
          rw [d2, Option.bind_some, aftF hfl, Option.bind_some, if_neg hfl.ne]
          exact Tr.some ⟨FrH.at.tr (FrH.s9 (Or.inr (Or.inl rfl))), hfl⟩
        | none =>
          rw [hn] at k
          obtain ⟨d, d1, d2, d3⟩ := k
          rw [sAt_sAt] at d2 d3
          rw [d2, Option.bind_some]
          have k := afterT (lo := 1) (hi := 3) (j := 3) h.at (hf2 d) d3 (by decide) (iT (k := 40) (by decide)) w3 (by decide)
          have k : match named tx e 303 1 3 (i + 5) with | none => ∃ a, a ≤ e ∧ f_X10_after (sAt M d) 440 1 3 = some (vl tx e (i + 6), sAt (sAt M d) a) ∧ AtR (sAt (sAt M d) a) tx e (i + 7) | some c => ∃ x a, a ≤ e ∧ f_X10_after (sAt M d) 440 1 3 = some (x, sI (sAt (sAt M d) a) 109 12 (nI (bg tx e c))) := k
          show Tr _ (HoR tx e M (match named tx e 303 1 3 (i + 5) with | some b => .inl b | none => .inr (addT m (vl tx e (i + 2)) (vl tx e (i + 4)) (vl tx e (i + 6)), i + 7)))
          cases hn2 : named tx e 303 1 3 (i + 5) with
          | some c =>
            rw [hn2] at k
            obtain ⟨x, g, g1, g2⟩ := k
            rw [sAt_sAt] at g2
            have hfl := Fl.of (M := M) he g1 (bg_le (tx := tx) he c)
            rw [g2, Option.bind_some, if_neg hfl.ne]
            exact Tr.some ⟨FrH.at.tr (FrH.s9 (Or.inr (Or.inl rfl))), hfl⟩
          | none =>
            rw [hn2] at k
            obtain ⟨g, g1, g2, g3⟩ := k
            rw [sAt_sAt] at g2 g3
            have i3 : ibs (3 : Int32) 807 = true := by decide
            have gT : gA (sAt M g) 110 3 = nI (tN m) := by show (sAt M g).1 110 3 = _; rw [hm2 g]; exact hI.t.1
            rw [g2, Option.bind_some, show gI (sAt M g) 109 12 = -1 from hf2 g, if_pos rfl, if_pos i3, gT, show (12 : Int32) + 5 * nI (tN m) = nI (12 + 5 * tN m) from by rw [l_12, l_5, nI_mulI, nI_add], Option.bind_some]
            have p0 : nI (12 + 5 * tN m) + 0 = nI (12 + 5 * tN m + 0) := nI_add (a := 12 + 5 * tN m) (b := 0)
            have p1 : nI (12 + 5 * tN m) + 1 = nI (12 + 5 * tN m + 1) := nI_add (a := 12 + 5 * tN m) (b := 1)
            have p2 : nI (12 + 5 * tN m) + 2 = nI (12 + 5 * tN m + 2) := nI_add (a := 12 + 5 * tN m) (b := 2)
            have p3 : nI (12 + 5 * tN m) + 3 = nI (12 + 5 * tN m + 3) := nI_add (a := 12 + 5 * tN m) (b := 3)
            have p4 : nI (12 + 5 * tN m) + 4 = nI (12 + 5 * tN m + 4) := nI_add (a := 12 + 5 * tN m) (b := 4)
            rw [p0, p1, p2, p3, p4, if_pos (ib807 (by omega)), sA110 (by omega), Option.bind_some, if_pos (ib807 (by omega)), sA110 (by omega), Option.bind_some, if_pos (ib807 (by omega)), sA110 (by omega), Option.bind_some, if_pos (ib807 (by omega)), sA110 (by omega), Option.bind_some, if_pos (ib807 (by omega)), sA110 (by omega), Option.bind_some, if_pos i3, if_pos i3]
            generalize hK : sI (sI (sI (sI (sI (sAt M g) 110 (12 + 5 * tN m + 0) (vl tx e (i + 2))) 110 (12 + 5 * tN m + 1) (vl tx e (i + 4))) 110 (12 + 5 * tN m + 2) (vl tx e (i + 6))) 110 (12 + 5 * tN m + 3) 1) 110 (12 + 5 * tN m + 4) 0 = K
            have hK110 : K.1 110 = uk (uk (uk (uk (uk m (12 + 5 * tN m + 0) (vl tx e (i + 2))) (12 + 5 * tN m + 1) (vl tx e (i + 4))) (12 + 5 * tN m + 2) (vl tx e (i + 6))) (12 + 5 * tN m + 3) 1) (12 + 5 * tN m + 4) 0 := by
              rw [← hK, uk_110, uk_110, uk_110, uk_110, uk_110, hm2 g]
            have hK109 : K.1 109 = (sAt M g).1 109 := by
              rw [← hK, sI_fn (by decide), sI_fn (by decide), sI_fn (by decide), sI_fn (by decide), sI_fn (by decide)]
            have hKF : FrH M K := by
              rw [← hK]
              exact ((((FrH.at.tr (FrH.s110 (by omega))).tr (FrH.s110 (by omega))).tr (FrH.s110 (by omega))).tr (FrH.s110 (by omega))).tr (FrH.s110 (by omega))
            have gK : gA K 110 3 = nI (tN m) := by
              show K.1 110 3 = _
              rw [hK110, uk_ne (by omega), uk_ne (by omega), uk_ne (by omega), uk_ne (by omega), uk_ne (by omega)]
              exact hI.t.1
            rw [gK, l_1, nI_add, show sA K 110 3 (nI (tN m + 1)) = sI K 110 3 (nI (tN m + 1)) from rfl, Option.bind_some]
            refine Tr.some ⟨hKF.tr (FrH.s110 (by decide)), ?_, ?_, ?_⟩
            · rw [sI_fn (by decide), hK109]; exact hf2 g
            · rw [uk_110, hK110]
              unfold addT
              rw [uk_cm (by omega), uk_cm (j := 12 + 5 * tN m + 3) (by omega), uk_cm (j := 12 + 5 * tN m + 2) (by omega), uk_cm (j := 12 + 5 * tN m + 1) (by omega), uk_cm (j := 12 + 5 * tN m + 0) (by omega)]
            · obtain ⟨z, z1, z2, z3⟩ := g3
              exact ⟨z, by rw [sI_fn (by decide), hK109]; exact z1, z2, z3⟩
    · rw [if_neg c2]
      obtain ⟨x, b, b1, b2⟩ := k2 (fun hh => c2 (nm_iff.mpr hh))
      rw [sAt_sAt] at b2
      have hfl := Fl.of (M := M) he b1 (bg_le (tx := tx) he (i + 1 + 1))
      rw [b2, Option.bind_some, if_neg hfl.ne, J76F hfl]
      exact Tr.some ⟨FrH.at.tr (FrH.s9 (Or.inr (Or.inl rfl))), hfl⟩
  · rw [decide_eq_false (show ¬ wdT tx e (i + 1) = 300 + 1 from c1), if_neg (show ¬ false = true by decide), if_neg c1]
    have hb : gI (sAt M a) 109 11 = nI (bg tx e (i + 1)) := by rw [← a4 c1]; exact at_sAt
    rw [hb, wrongR (hf2 a), Option.bind_some]
    have hfl := Fl.of (M := M) he a1 (bg_le (tx := tx) he (i + 1))
    obtain ⟨d, d1, d2⟩ := J41F hfl ((h.at (a := a)).sI9 (by decide) (by decide))
    rw [d2]
    exact Tr.some ⟨(FrH.at.tr (FrH.s9 (Or.inr (Or.inl rfl)))).tr FrH.at, hfl.at d1⟩
end HALLR
