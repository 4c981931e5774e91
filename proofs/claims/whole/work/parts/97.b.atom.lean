/-! the reference reads an atom, and a condition -/
section LAWB
variable {tx : Nat → Int32} {e i j k r b N2 f c a cc d n q w lev dd : Nat} {M N K : Mm} {p p2 l2 : List Int32} {x y T o s mk op : Int32} {P : Nat → Int32} {v v2 : Bool} {sub : Nat → GP} {F : Mm → Option (Bool × Mm)} {G : GP}
theorem ev_L (rc : RT_gatom) (M : Mm) (v : Bool) : f_X10_every_L5 rc M (bI v) = gLp rc.1 435 (fun a b => a && b) M (bI v) := by
  have inner : ∀ rr6 : Bool × Mm, (if bI v = 0 then (some (.inl (rr6.2, 0))) else (if rr6.1 = true then (some (.inl (rr6.2, 1))) else (some (.inl (rr6.2, 0)))) : Option ((Mm × Int32) ⊕ (Mm × Int32))) = some (.inl (rr6.2, bI (decide (bI v = 1) && rr6.1))) := by
    rintro ⟨b, K⟩
    cases v <;> cases b <;> rfl
  unfold f_X10_every_L5 gLp
  simp only [inner]
theorem so_L (rc : RT_gatom) (M : Mm) (v : Bool) : f_X10_some_L5 rc M (bI v) = gLp rc.2.1 436 (fun a b => a || b) M (bI v) := by
  have inner : ∀ rr6 : Bool × Mm, (if bI v = 0 then (if rr6.1 = true then (f_X10_some_J5_35 rc rr6.2) else (some (.inl (rr6.2, 0)))) else (f_X10_some_J5_35 rc rr6.2)) = some (.inl (rr6.2, bI (decide (bI v = 1) || rr6.1))) := by
    rintro ⟨b, K⟩
    cases v <;> cases b <;> rfl
  unfold f_X10_some_L5 gLp
  simp only [inner]
theorem evR {g : Nat} (he : e ≤ 400) (hg : ∀ i p j, sub i = .inr (p, j) → i < j) (hl : lev < 30) (hF : SubR P mk tx e (lev + 1) cc dd (f_gatom g).1 sub) : SubR P mk tx e lev cc dd (f_gatom (g + 1)).2.1 (chP tx e sub 314 1024) :=
  chainR (w := 14) (q := 435) (g := fun a b => a && b) he (by decide) (iT (k := 35) (by decide)) s_law.2.2.2.2.2.1 (fun M v => ev_L (f_gatom g) M v) hg hF (fun p p2 v v2 h h2 => h.and h2 hl)
theorem soR {g : Nat} (he : e ≤ 400) (hg : ∀ i p j, sub i = .inr (p, j) → i < j) (hl : lev < 28) (hF : SubR P mk tx e (lev + 2) cc dd (f_gatom g).1 sub) : SubR P mk tx e lev cc dd (f_gatom (g + 2)).2.2 (soP tx e sub) :=
  chainR (w := 15) (q := 436) (g := fun a b => a || b) he (by decide) (iT (k := 36) (by decide)) s_law.2.2.2.2.2.2.1 (fun M v => so_L (f_gatom (g + 1)) M v) (chP_gt hg) (evR (g := g) he hg (by omega) hF) (fun p p2 v v2 h h2 => h.or h2 (by omega))
theorem AtR.s9 (h : AtR M tx e i) (hc : c ≠ 11) : AtR (sI M 109 c x) tx e i := by
  obtain ⟨a, a1, a2, a3⟩ := h
  exact ⟨a, by rw [sI_at, if_neg (by omega)]; exact a1, a2, a3⟩
theorem J138v (rc : RT_gatom) (v : Bool) : f_X10_atom_J138 rc M (bI v) = some (v, sI M 109 13 (gI M 109 13 - 1)) := by
  cases v <;> rfl
theorem nI_less1 (h : 1 ≤ a) : nI a - 1 = nI (a - 1) := by rw [l_1, nI_subI h]
theorem atR (he : e ≤ 400) : ∀ r, r ≤ 6 → ∀ g, 3 * r + 1 ≤ g → SubR P mk tx e (2 * (6 - r) + 2) r (6 - r) (f_gatom g).1 (atP tx e r) := by
  intro r
  induction r with
  | zero =>
    intro hr g hg M i hx hf ha hP hd
    obtain ⟨g, rfl⟩ : ∃ g', g = g' + 1 := ⟨g - 1, by omega⟩
    show Tr (fB_X10_atom (f_gatom g) M) _
    generalize f_gatom g = rc
    have hb := bg_le (tx := tx) he i
    obtain ⟨pl, pa⟩ := placeT hx ha
    unfold fB_X10_atom f_X10_place
    rw [show gI M 109 12 = -1 from hf, if_pos rfl, pl, Option.bind_some, Option.bind_some, show gI (sAt M (bg tx e i)) 109 11 = nI (bg tx e i) from at_sAt]
    obtain ⟨a, a1, a2, a3, a4⟩ := saysT hx.at pa (j := 13) (by decide) (iT (k := 22) (by decide)) s_law.2.2.2.2.1
    rw [sAt_sAt] at a2 a3
    rw [show f_X10_says (sAt M (bg tx e i)) 422 = _ from a2, Option.bind_some]
    have fA : (sAt M a).1 109 12 = -1 := (sAt_ne (by decide)).trans hf
    have dA : gI (sAt M a) 109 13 = 6 := ((sAt_ne (by decide)).trans hd)
    rw [atP]
    have bad : ∀ t, Tr (f_X10_atom_J40 rc (sAt M a) (nI (bg tx e i)) t) (CR P mk tx e M (2 * (6 - 0) + 2) (.inl i) 0) := fun t => by
      unfold f_X10_atom_J40
      rw [dA, if_pos rfl, wrongR fA, Option.bind_some]
      exact Tr.some ⟨WA.at.tr (WA.s9 (Or.inr (Or.inl rfl))), Flc.of he (by omega) hb⟩
    by_cases c1 : wdT tx e i = 313
    · rw [decide_eq_true (show wdT tx e i = 300 + 13 from c1), if_pos rfl, if_pos (Or.inl c1)]
      exact bad _
    · rw [if_neg (show ¬ wdT tx e i = 300 + 13 from c1)] at a3
      rw [decide_eq_false (show ¬ wdT tx e i = 300 + 13 from c1), if_neg (show ¬ false = true by decide)]
      have ea := a4 c1
      obtain ⟨t1, t2, t3⟩ := signT hx.at a3 (j := 23) (by decide) (by decide) s_law.2.2.2.2.2.2.2.2.2.2.1
      rw [t1, Option.bind_some]
      rw [sAt_sAt] at t2 t3 ⊢
      rw [← ea] at t2 ⊢
      by_cases c2 : wdT tx e i = 323
      · rw [decide_eq_true (show wdT tx e i = 300 + 23 from c2), if_pos rfl, if_pos (Or.inr c2), ea]
        rw [ea] at bad
        exact bad _
      · rw [decide_eq_false (show ¬ wdT tx e i = 300 + 23 from c2), if_neg (show ¬ false = true by decide), if_neg (by omega), eta2]
        exact Tr.weak (plainR hx.at fA t2 (WA.at.ev hP)) (fun z hz => (CR.wa WA.at (sAt_ne (by decide)) hz).mono (by omega) (by omega))
  | succ r ih =>
    intro hr g hg M i hx hf ha hP hd
    obtain ⟨g, rfl⟩ : ∃ g', g = g' + 3 := ⟨g - 3, by omega⟩
    show Tr (fB_X10_atom (f_gatom (g + 2)) M) _
    have hat := ih (by omega) (g + 2) (by omega)
    have hso := soR (lev := 2 * (6 - r)) (g := g) he (atP_gt r) (by omega) (ih (by omega) g (by omega))
    have hb := bg_le (tx := tx) he i
    obtain ⟨pl, pa⟩ := placeT hx ha
    unfold fB_X10_atom f_X10_place
    rw [show gI M 109 12 = -1 from hf, if_pos rfl, pl, Option.bind_some, Option.bind_some, show gI (sAt M (bg tx e i)) 109 11 = nI (bg tx e i) from at_sAt]
    obtain ⟨a, a1, a2, a3, a4⟩ := saysT hx.at pa (j := 13) (by decide) (iT (k := 22) (by decide)) s_law.2.2.2.2.1
    rw [sAt_sAt] at a2 a3
    rw [show f_X10_says (sAt M (bg tx e i)) 422 = _ from a2, Option.bind_some]
    have fA : (sAt M a).1 109 12 = -1 := (sAt_ne (by decide)).trans hf
    have dA : gI (sAt M a) 109 13 = nI (5 - r) := ((sAt_ne (by decide)).trans hd).trans (by rw [show 6 - (r + 1) = 5 - r by omega])
    rw [atP]
    have hdM : M.1 109 13 = nI (5 - r) := hd.trans (by rw [show 6 - (r + 1) = 5 - r by omega])
    have n6 : ¬ nI (5 - r) = 6 := by
      rw [show (6 : Int32) = nI 6 from rfl, nI_eq (by omega) (by omega)]; omega
    have eI : nI (5 - r) + 1 = nI (6 - r) := by rw [l_1, nI_add, show 5 - r + 1 = 6 - r by omega]
    have eD : nI (6 - r) - 1 = nI (5 - r) := by rw [nI_less1 (by omega), show 6 - r - 1 = 5 - r by omega]
    by_cases c1 : wdT tx e i = 313
    · rw [if_pos (show wdT tx e i = 300 + 13 from c1)] at a3
      rw [decide_eq_true (show wdT tx e i = 300 + 13 from c1), if_pos rfl, if_pos c1]
      unfold f_X10_atom_J40
      rw [dA, if_neg n6, eI, Option.bind_some, if_neg (show ¬ bI true = 0 by decide)]
      have w5 : WA M (sI (sAt M a) 109 13 (nI (6 - r))) := WA.at.tr (WA.s9 (Or.inr (Or.inr rfl)))
      have f5 : (sI (sAt M a) 109 13 (nI (6 - r))).1 109 12 = -1 := by rw [sI_at, if_neg (by omega)]; exact fA
      have d5 : (sI (sAt M a) 109 13 (nI (6 - r))).1 109 13 = nI (6 - r) := by rw [sI_at, if_pos ⟨rfl, rfl⟩]
      refine Tr.bind (hat _ (i + 1) (w5.txr hx) f5 (a3.s9 (by decide)) (w5.ev hP) d5) (fun z hz => ?_)
      obtain ⟨b, K⟩ := z
      obtain ⟨h1, h2⟩ := hz
      have h1 : WA M K := w5.tr h1
      have fin : (if b = true then f_X10_atom_J84 (f_gatom (g + 2)) K 0 else f_X10_atom_J84 (f_gatom (g + 2)) K 1) = some (!b, sI K 109 13 (gI K 109 13 - 1)) := by
        cases b
        · exact J138v (f_gatom (g + 2)) true
        · exact J138v (f_gatom (g + 2)) false
      show Tr (if b = true then f_X10_atom_J84 (f_gatom (g + 2)) K 0 else f_X10_atom_J84 (f_gatom (g + 2)) K 1) _
      rw [fin]
      refine Tr.some ⟨h1.tr (WA.s9 (Or.inr (Or.inr rfl))), ?_⟩
      cases hq : atP tx e r (i + 1) with
      | inl bb =>
        rw [hq] at h2
        exact (Flc.s13 h2).mono (by omega)
      | inr o =>
        obtain ⟨p, j⟩ := o
        rw [hq] at h2
        obtain ⟨k1, k2, k3, k4⟩ : K.1 109 12 = -1 ∧ K.1 109 13 = (sI (sAt M a) 109 13 (nI (6 - r))).1 109 13 ∧ AtR K tx e j ∧ Ev P mk (2 * (6 - r) + 2) p b := h2
        refine ⟨by show (sI K 109 13 _).1 109 12 = -1; rw [sI_at, if_neg (by omega)]; exact k1, ?_, k3.s9 (by decide), (k4.mono (by omega)).not (by omega)⟩
        show (sI K 109 13 _).1 109 13 = _
        rw [sI_at, if_pos ⟨rfl, rfl⟩, show gI K 109 13 = nI (6 - r) from k2.trans d5, eD, hdM]
    · rw [if_neg (show ¬ wdT tx e i = 300 + 13 from c1)] at a3
      rw [decide_eq_false (show ¬ wdT tx e i = 300 + 13 from c1), if_neg (show ¬ false = true by decide), if_neg c1]
      have ea := a4 c1
      obtain ⟨t1, t2, t3⟩ := signT hx.at a3 (j := 23) (by decide) (by decide) s_law.2.2.2.2.2.2.2.2.2.2.1
      rw [t1, Option.bind_some]
      rw [sAt_sAt] at t2 t3 ⊢
      rw [← ea] at t2 ⊢
      by_cases c2 : wdT tx e i = 323
      · obtain ⟨t4, t5⟩ := t3 c2
        rw [← ea] at t5
        rw [decide_eq_true (show wdT tx e i = 300 + 23 from c2), if_pos rfl, if_pos c2]
        unfold f_X10_atom_J40
        have e5 : gI (sI (sAt M a) 109 13 (nI (6 - r))) 109 11 = nI a := by
          show (sI (sAt M a) 109 13 (nI (6 - r))).1 109 11 = _
          rw [sI_at, if_neg (by omega)]; exact at_sAt
        rw [dA, if_neg n6, eI, Option.bind_some, if_pos (show bI false = 0 from rfl), e5, show nI a + 1 = nI (a + 1) by rw [l_1, nI_add], Option.bind_some]
        generalize hB : sI (sI (sAt M a) 109 13 (nI (6 - r))) 109 11 (nI (a + 1)) = B
        have w5 : WA M B := by rw [← hB]; exact (WA.at.tr (WA.s9 (Or.inr (Or.inr rfl)))).tr (WA.s9 (Or.inl rfl))
        have f5 : B.1 109 12 = -1 := by rw [← hB, sI_at, if_neg (by omega), sI_at, if_neg (by omega)]; exact fA
        have d5 : B.1 109 13 = nI (6 - r) := by rw [← hB, sI_at, if_neg (by omega), sI_at, if_pos ⟨rfl, rfl⟩]
        have a5 : AtR B tx e (i + 1) := by
          obtain ⟨y, y1, y2, y3⟩ := t5
          have hy : nI y = nI (a + 1) := y1.symm.trans at_sAt
          rw [nI_eq (by omega) (by omega)] at hy
          exact ⟨a + 1, by rw [← hB, sI_at, if_pos ⟨rfl, rfl⟩], by omega, by rw [← y3, hy]⟩
        refine Tr.bind (hso B (i + 1) (w5.txr hx) f5 a5 (w5.ev hP) d5) (fun z hz => ?_)
        obtain ⟨b, K⟩ := z
        obtain ⟨h1, h2⟩ := hz
        have h1 : WA M K := w5.tr h1
        have wJ : ∀ K, WA M K → WA M (sI (sI K 109 11 (gI K 109 11 + 1)) 109 13 (gI (sI K 109 11 (gI K 109 11 + 1)) 109 13 - 1)) := fun K hK => (hK.tr (WA.s9 (Or.inl rfl))).tr (WA.s9 (Or.inr (Or.inr rfl)))
        have hJ : ∀ K, f_X10_atom_J128 (f_gatom (g + 2)) K (bI b) = some (b, sI (sI K 109 11 (gI K 109 11 + 1)) 109 13 (gI (sI K 109 11 (gI K 109 11 + 1)) 109 13 - 1)) := fun K => J138v (f_gatom (g + 2)) b
        cases hq : soP tx e (atP tx e r) (i + 1) with
        | inl bb =>
          rw [hq] at h2
          have h2 : Flc K e (bg tx e bb) r := h2
          rw [if_neg h2.ne]
          show Tr (f_X10_atom_J128 (f_gatom (g + 2)) K (bI b)) _
          rw [hJ]
          exact Tr.some ⟨wJ K h1, h2.s11.s13⟩
        | inr o =>
          obtain ⟨p, j⟩ := o
          rw [hq] at h2
          obtain ⟨k1, k2, k3, k4⟩ : K.1 109 12 = -1 ∧ K.1 109 13 = B.1 109 13 ∧ AtR K tx e j ∧ Ev P mk (2 * (6 - r)) p b := h2
          have hbj := bg_le (tx := tx) he j
          obtain ⟨u1, u2, u3⟩ := signT (h1.txr hx) k3 (j := 24) (by decide) (by decide) s_law.2.2.2.2.2.2.2.2.2.2.2
          rw [show gI K 109 12 = -1 from k1, if_pos rfl, u1, Option.bind_some]
          show Tr _ (CR P mk tx e M (2 * (6 - (r + 1)) + 2) (if wdT tx e j = 324 then .inr (p, j + 1) else .inl j) (r + 1))
          have wK : WA M (sAt K (bg tx e j)) := h1.tr WA.at
          have fK : (sAt K (bg tx e j)).1 109 12 = -1 := (sAt_ne (by decide)).trans k1
          by_cases c3 : wdT tx e j = 324
          · obtain ⟨u4, u5⟩ := u3 c3
            rw [decide_eq_true (show wdT tx e j = 300 + 24 from c3), if_pos rfl, if_pos c3]
            show Tr (f_X10_atom_J128 (f_gatom (g + 2)) (sAt K (bg tx e j)) (bI b)) _
            have hJ2 := hJ (sAt K (bg tx e j))
            rw [show gI (sAt K (bg tx e j)) 109 11 = nI (bg tx e j) from at_sAt, l_1, nI_add, show sI (sAt K (bg tx e j)) 109 11 (nI (bg tx e j + 1)) = sAt K (bg tx e j + 1) from sI_sI, ← l_1, show gI (sAt K (bg tx e j + 1)) 109 13 = nI (6 - r) from (sAt_ne (by decide)).trans (k2.trans d5), eD] at hJ2
            rw [hJ2]
            refine Tr.some ⟨(h1.tr WA.at).tr (WA.s9 (Or.inr (Or.inr rfl))), ?_, ?_, u5.s9 (by decide), k4.mono (by omega)⟩
            · show (sI (sAt K (bg tx e j + 1)) 109 13 _).1 109 12 = -1
              rw [sI_at, if_neg (by omega)]; exact (sAt_ne (by decide)).trans k1
            · show (sI (sAt K (bg tx e j + 1)) 109 13 _).1 109 13 = _
              rw [sI_at, if_pos ⟨rfl, rfl⟩, hdM]
          · rw [decide_eq_false (show ¬ wdT tx e j = 300 + 24 from c3), if_neg (show ¬ false = true by decide), if_neg c3, show gI (sAt K (bg tx e j)) 109 11 = nI (bg tx e j) from at_sAt, wrongR fK, Option.bind_some]
            show Tr (f_X10_atom_J128 (f_gatom (g + 2)) (sI (sAt K (bg tx e j)) 109 12 (nI (bg tx e j))) (bI b)) _
            rw [hJ]
            have hF : Flc (sI (sAt K (bg tx e j)) 109 12 (nI (bg tx e j))) e (bg tx e j) r := Flc.of he (by omega) hbj
            exact Tr.some ⟨wJ _ (wK.tr (WA.s9 (Or.inr (Or.inl rfl)))), hF.s11.s13⟩
      · rw [decide_eq_false (show ¬ wdT tx e i = 300 + 23 from c2), if_neg (show ¬ false = true by decide), if_neg c2, eta2]
        exact Tr.weak (plainR hx.at fA t2 (WA.at.ev hP)) (fun z hz => (CR.wa WA.at (sAt_ne (by decide)) hz).mono (by omega) (by omega))
/-- a condition, whole -/
theorem condR (he : e ≤ 400) : SubR P mk tx e 0 6 0 f_X10_some (coP tx e) :=
  soR (g := 38) he (atP_gt 6) (by decide) (atR he 6 (by decide) 38 (by decide))
end LAWB
