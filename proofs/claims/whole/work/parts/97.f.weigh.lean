/-! LIKING: the class -/
section LAWF
variable {tx : Nat → Int32} {e i j k r b f c a d n q w t v B L L2 fr to : Nat} {M N K Mc Mr : Mm} {m m2 : Nat → Int32} {x y s mk op as T o : Int32} {P : Nat → Int32} {p : List Int32} {u u2 : List (Int32 × Int32 × List Int32)}
def okL (p : List Int32) : Prop := ∀ op ∈ p, op < 1010 → isO op
theorem okL.app {p2 : List Int32} (h : okL p) (h2 : okL p2) : okL (p ++ p2) := fun op ho => (List.mem_append.mp ho).elim (h op) (h2 op)
theorem okL.of1 (h : ¬ op < 1010) : okL [op] := fun q hq h2 => by rw [List.mem_singleton.mp hq] at h2; exact absurd h2 h
theorem okL.isO (h : ∀ op ∈ p, isO op) : okL p := fun op ho _ => h op ho
theorem plP_k (h : plP tx e i = .inr (p, j)) : okL p := by
  unfold plP at h
  cases hm : mkK tx e i with
  | some k =>
    rw [hm] at h; cases h
    have := (mkK_ok hm).1
    exact okL.of1 (by rw [show (1010 : Int32) = nI 1010 from rfl, nI_ltI (by omega) (by omega)]; omega)
  | none =>
    rw [hm] at h
    have h : cmP tx e i = .inr (p, j) := h
    cases hs : suP tx e 400 [] i with
    | inl b => rw [cmP_bad hs] at h; exact nomatch h
    | inr o =>
      obtain ⟨q, k⟩ := o
      have h1 := suP_o _ _ _ _ _ (fun op h => absurd h List.not_mem_nil) hs
      rw [cmP_ok hs] at h
      unfold cm2 at h
      by_cases c : wdT tx e k = 325 ∨ wdT tx e k = 326
      · rw [if_pos c] at h
        cases hs2 : suP tx e 400 [] (k + 1) with
        | inl b => rw [hs2] at h; exact nomatch h
        | inr o =>
          obtain ⟨q2, k2⟩ := o
          have h2 := suP_o _ _ _ _ _ (fun op h => absurd h List.not_mem_nil) hs2
          rw [hs2] at h; cases h
          refine (((okL.isO h1).app (okL.of1 (by decide))).app (okL.isO h2)).app ?_
          by_cases d : wdT tx e k = 325
          · rw [if_pos d]; exact okL.of1 (by decide)
          · rw [if_neg d]; exact okL.of1 (by decide)
      · rw [if_neg c] at h; exact nomatch h
theorem chL_k {sub : Nat → GP} {w : Nat} {op : Int32} (hop : ¬ op < 1010) (hs : ∀ i p j, sub i = .inr (p, j) → okL p) : ∀ k p j q j2, okL p → chL tx e sub w op k p j = .inr (q, j2) → okL q := by
  intro k
  induction k with
  | zero => intro p j q j2 hp h; cases h; exact hp
  | succ k ih =>
    intro p j q j2 hp h
    unfold chL at h
    by_cases c : wdT tx e j = w
    · rw [if_pos c] at h
      cases hq : sub (j + 1) with
      | inl b => rw [hq] at h; exact nomatch h
      | inr o =>
        obtain ⟨q2, k2⟩ := o
        have h1 := hs _ _ _ hq
        rw [hq] at h
        exact ih _ _ _ _ ((hp.app h1).app (okL.of1 hop)) h
    · rw [if_neg c] at h; cases h; exact hp
theorem chP_k {sub : Nat → GP} {w : Nat} {op : Int32} (hop : ¬ op < 1010) (hs : ∀ i p j, sub i = .inr (p, j) → okL p) : ∀ i p j, chP tx e sub w op i = .inr (p, j) → okL p := by
  intro i p j h
  unfold chP at h
  cases hq : sub i with
  | inl b => rw [hq] at h; exact nomatch h
  | inr o =>
    obtain ⟨q2, k2⟩ := o
    have h1 := hs _ _ _ hq
    rw [hq] at h
    exact chL_k hop hs _ _ _ _ _ h1 h
theorem soP_k {sub : Nat → GP} (hs : ∀ i p j, sub i = .inr (p, j) → okL p) : ∀ i p j, soP tx e sub i = .inr (p, j) → okL p := chP_k (by decide) (chP_k (by decide) hs)
theorem atP_k : ∀ r i p j, atP tx e r i = .inr (p, j) → okL p := by
  intro r
  induction r with
  | zero =>
    intro i p j h
    unfold atP at h
    by_cases c : wdT tx e i = 313 ∨ wdT tx e i = 323
    · rw [if_pos c] at h; exact nomatch h
    · rw [if_neg c] at h; exact plP_k h
  | succ r ih =>
    intro i p j h
    unfold atP at h
    by_cases c : wdT tx e i = 313
    · rw [if_pos c] at h
      cases hq : atP tx e r (i + 1) with
      | inl b => rw [hq] at h; exact nomatch h
      | inr o =>
        obtain ⟨q2, k2⟩ := o
        have h1 := ih _ _ _ hq
        rw [hq] at h; cases h; exact h1.app (okL.of1 (by decide))
    · rw [if_neg c] at h
      by_cases d : wdT tx e i = 323
      · rw [if_pos d] at h
        cases hq : soP tx e (atP tx e r) (i + 1) with
        | inl b => rw [hq] at h; exact nomatch h
        | inr o =>
          obtain ⟨q2, k2⟩ := o
          have h1 := soP_k ih _ _ _ hq
          rw [hq] at h
          have h : (if wdT tx e k2 = 324 then .inr (q2, k2 + 1) else .inl k2 : GP) = .inr (p, j) := h
          by_cases f : wdT tx e k2 = 324
          · rw [if_pos f] at h; cases h; exact h1
          · rw [if_neg f] at h; exact nomatch h
      · rw [if_neg d] at h; exact plP_k h
theorem coP_k (h : coP tx e i = .inr (p, j)) : okL p := soP_k (atP_k 6) _ _ _ h
def okU (u : List (Int32 × Int32 × List Int32)) : Prop := ∀ l ∈ u, okL l.2.2
theorem lnP_k (hu : okU u) (h : lnP tx e u i = .inr (u2, j)) : okU u2 := by
  have last : ∀ wh wt p, okL p → okU (u ++ [(wh, wt, p)]) := fun wh wt p hp l hl => by
    rcases List.mem_append.mp hl with h1 | h1
    · exact hu l h1
    · rw [List.mem_singleton.mp h1]; exact hp
  have hQ : ∀ lk wh k, lnQ tx e u lk wh k = .inr (u2, j) → okU u2 := fun lk wh k hh => by
    unfold lnQ at hh
    by_cases c : nm tx e 0 99 k = true
    · rw [if_pos c] at hh
      by_cases d : wdT tx e (k + 1) = 312
      · rw [if_pos d] at hh
        generalize hG : coP tx e (k + 2) = G at hh
        cases G with
        | inl b => exact nomatch hh
        | inr o => cases hh; exact last _ _ _ (coP_k hG)
      · rw [if_neg d] at hh; cases hh; exact last _ _ _ (fun op ho => absurd ho List.not_mem_nil)
    · rw [if_neg c] at hh; exact nomatch hh
  have hO : ∀ lk k, lnO tx e u lk k = .inr (u2, j) → okU u2 := fun lk k hh => by
    unfold lnO at hh
    generalize whP tx e k = G at hh
    cases G with
    | none => exact nomatch hh
    | some wh => exact hQ lk wh (k + 1) hh
  unfold lnP at h
  by_cases c : wdT tx e i = 309
  · rw [if_pos c] at h; exact hO true _ h
  · rw [if_neg c] at h
    by_cases d : wdT tx e i = 310
    · rw [if_pos d] at h; exact hO false _ h
    · rw [if_neg d] at h; exact nomatch h
theorem gF_k : ∀ k c u i u2 c2, okU u → gF tx e (lnP tx e) k c u i = .inr (u2, c2) → okU u2 := by
  intro k
  induction k with
  | zero => intro c u i u2 c2 _ h; exact nomatch h
  | succ k ih =>
    intro c u i u2 c2 hu h
    rw [gF_succ] at h
    generalize hl : lnP tx e u i = G at h
    cases G with
    | inl b => exact nomatch h
    | inr o =>
      obtain ⟨u3, j⟩ := o
      have h1 := lnP_k hu hl
      have h : (if wdT tx e j = 330 then Sum.inr (u3, c + 1) else if wdT tx e j = 322 then gF tx e (lnP tx e) k (c + 1) u3 (j + 1) else .inl j) = .inr (u2, c2) := h
      by_cases d : wdT tx e j = 330
      · rw [if_pos d] at h; cases h; exact h1
      · rw [if_neg d] at h
        by_cases f : wdT tx e j = 322
        · rw [if_pos f] at h; exact ih _ _ _ _ _ h1 h
        · rw [if_neg f] at h; exact nomatch h
theorem txL_k (h : txL tx e = .inr (u, c)) : okU u := by
  unfold txL gR0 at h
  by_cases d : wdT tx e 0 = 330
  · rw [if_pos d] at h; cases h; exact fun l hl => absurd hl List.not_mem_nil
  · rw [if_neg d] at h
    exact gF_k _ _ _ _ _ _ (fun l hl => absurd hl List.not_mem_nil) h
-- the class reckons a condition
theorem L21_st (hP : ∀ k, k < 6 → M.1 (L + 5) k = P k) (h5 : ln (L + 5) = 6) (hop : t_X9_at M (L + 4) (nI i) = op) (hk : op < 1010 → isO op) (hi : i < to) (ht : to ≤ 400) : f_X2_holds_L21 M L mk (nI to) T s o (nI i) = some (.inl ((spO P mk (T, s, o) op).1, (spO P mk (T, s, o) op).2.1, (spO P mk (T, s, o) op).2.2, nI (i + 1))) := by
  unfold f_X2_holds_L21 spO
  rw [if_neg (by rw [nI_leI (by omega) (by omega)]; omega), hop, show nI i + 1 = nI (i + 1) by rw [l_1, nI_add]]
  by_cases c : 1010 ≤ op
  · rw [if_pos c, if_pos c]
    by_cases c0 : op = 1020
    · rw [if_pos c0, if_pos c0]
    · rw [if_neg c0, if_neg c0]
      by_cases c1 : op = 1021
      · rw [if_pos c1, if_pos c1]
        unfold f_X2_holds_J21_114 f_X2_holds_J21_149 f_X2_holds_J21_165
        rw [if_pos c1, show nI i + 1 = nI (i + 1) by rw [l_1, nI_add]]
        by_cases d : s ≤ o
        · rw [if_pos d, if_pos rfl, if_pos d]
        · rw [if_neg d, if_neg (by decide), if_neg d]
      · rw [if_neg c1, if_neg c1]
        by_cases c2 : op = 1022
        · rw [if_pos c2, if_pos c2]
          unfold f_X2_holds_J21_114 f_X2_holds_J21_149 f_X2_holds_J21_165
          rw [if_neg c1, show nI i + 1 = nI (i + 1) by rw [l_1, nI_add]]
          by_cases d : o ≤ s
          · rw [if_pos d, if_pos rfl, if_pos d]
          · rw [if_neg d, if_neg (by decide), if_neg d]
        · rw [if_neg c2, if_neg c2]
          by_cases c3 : op < 1023
          · rw [if_pos c3, if_pos c3]; rfl
          · rw [if_neg c3, if_neg c3]; rfl
  · rw [if_neg c, if_neg c]
    unfold f_X2_holds_J21_74 pv
    rw [show nI i + 1 = nI (i + 1) by rw [l_1, nI_add]]
    by_cases d : 1000 ≤ op
    · rw [if_pos d, if_pos d]
      obtain ⟨z, z1, z2⟩ := hk (Int32.not_le.mp c)
      have hz : 1000 ≤ z := by rw [z1, show (1000 : Int32) = nI 1000 from rfl, nI_leI (by decide) (by omega)] at d; exact d
      rw [z1, show (1000 : Int32) = nI 1000 from rfl, nI_subI hz, at_nI h5 (by omega), nI_clamp (by omega), hP _ (by omega)]
    · rw [if_neg d, if_neg d]
theorem bt_and1 : ((x &&& 1) = 1) ↔ bt x 0 = true := by
  constructor
  · intro h
    have := congrArg (fun y => bt y 0) h
    have this : bt (x &&& 1) 0 = bt 1 0 := this
    rw [b_and] at this
    simpa [b_1] using this
  · intro h
    refine b_ext (fun i hi => ?_)
    rw [b_and, b_1 i hi]
    by_cases c : i = 0
    · subst c; rw [h]; rfl
    · rw [decide_eq_false c, Bool.and_false]
theorem gD_in {α : Type} {l : List α} {d : α} {k : Nat} (h : k < l.length) : l.getD k d = l[k] := by rw [List.getD_eq_getElem?_getD, List.getElem?_eq_getElem h]; rfl
theorem gD_r {α : Type} {l l2 : List α} {d : α} {k : Nat} : (l ++ l2).getD (l.length + k) d = l2.getD k d := by rw [List.getD_eq_getElem?_getD, List.getD_eq_getElem?_getD, List.getElem?_append_right (by omega), Nat.add_sub_cancel_left]
theorem gD_l {α : Type} {l l2 : List α} {d : α} {k : Nat} (h : k < l.length) : (l ++ l2).getD k d = l.getD k d := by rw [List.getD_eq_getElem?_getD, List.getD_eq_getElem?_getD, List.getElem?_append_left h]
theorem holdC (hP : ∀ k, k < 6 → M.1 (L + 5) k = P k) (h5 : ln (L + 5) = 6) (h4 : ln (L + 4) = 400) (hp : ∀ x, x < p.length → M.1 (L + 4) (fr + x) = p.getD x 0) (hk : okL p) (ht : fr + p.length ≤ 400) : f_X2_holds M L mk (nI fr) (nI (fr + p.length)) = some (hdP P mk p) := by
  have lp : ∀ T0, loop FU (fun a_3 => f_X2_holds_L21 M L mk (nI (fr + p.length)) a_3.1 a_3.2.1 a_3.2.2.1 a_3.2.2.2) (T0, 0, 0, nI fr) = some (rnL P mk (T0, 0, 0) p).1 := fun T0 => by
    refine (lp0 (Q := fun r : Int32 => r = (rnL P mk (T0, 0, 0) p).1) (fun k (s : Int32 × Int32 × Int32) => (s.1, s.2.1, s.2.2, nI (fr + k))) p.length (fun k s => s = rnL P mk (T0, 0, 0) (p.take k)) (by omega) (T0, 0, 0) rfl (by rw [List.take_zero]; rfl) (fun k s hk2 hs => ?_) (fun s hs => ?_)).eq
    · show Tr (f_X2_holds_L21 M L mk (nI (fr + p.length)) s.1 s.2.1 s.2.2 (nI (fr + k))) _
      have hop : t_X9_at M (L + 4) (nI (fr + k)) = p[k] := by
        rw [at_nI h4 (by omega), hp k hk2, gD_in hk2]
      rw [L21_st hP h5 hop (hk _ (List.getElem_mem hk2)) (by omega) ht]
      refine Tr.some (Or.inl ⟨spO P mk s p[k], rfl, ?_⟩)
      rw [hs, ← List.take_append_getElem hk2, show rnL P mk (T0, 0, 0) (p.take k ++ [p[k]]) = _ from rnL_app]
      rfl
    · show Tr (f_X2_holds_L21 M L mk (nI (fr + p.length)) s.1 s.2.1 s.2.2 (nI (fr + p.length))) _
      unfold f_X2_holds_L21
      rw [if_pos (by rw [nI_leI (by omega) (by omega)]; omega)]
      rw [List.take_length] at hs
      exact Tr.some ⟨_, rfl, by rw [hs]⟩
  unfold f_X2_holds f_X2_holds_J10 hdP
  by_cases c : p = []
  · subst c
    rw [if_pos (by rw [nI_leI (by omega) (by omega)]; exact Nat.le_refl _), lp, if_pos rfl, Option.bind_some, if_pos (show (rnL P mk (1, 0, 0) []).1 &&& 1 = 1 by show (1 : Int32) &&& 1 = 1; decide)]
  · have hl : 0 < p.length := List.length_pos_iff.mpr c
    rw [if_neg (by rw [nI_leI (by omega) (by omega)]; omega), lp, if_neg c, Option.bind_some]
    by_cases d : bt (rnL P mk (0, 0, 0) p).1 0 = true
    · rw [if_pos (bt_and1.mpr d), d]
    · rw [if_neg (fun h => d (bt_and1.mp h)), Bool.eq_false_iff.mpr d]
theorem pr_app {a b : List (Int32 × Int32 × List Int32)} : pr (a ++ b) = pr a ++ pr b := List.flatMap_append
theorem pr_cut (hk : k < u.length) : pr u = pr (u.take k) ++ (u[k].2.2 ++ pr (u.drop (k + 1))) := by
  have h1 : u = u.take k ++ (u[k] :: u.drop (k + 1)) := by rw [← List.drop_eq_getElem_cons hk, List.take_append_drop]
  conv => lhs; rw [h1]
  rw [pr_app]
  rfl
theorem pr_take (hk : k < u.length) : pr (u.take (k + 1)) = pr (u.take k) ++ u[k].2.2 := by
  rw [← List.take_append_getElem hk, pr_app]
  congr 1
  show u[k].2.2 ++ [] = _
  rw [List.append_nil]
theorem LR_4 (hq : kd q = 4) (hL : kd L = 2) (hM : MR M q m) (hI : Inv m B) (hR : LR M L m) (ht : t < tN m) (hv : v < vN m) : Tr (f_X2_weighs M L q (nI t) (nI v)) (fun r => r.1 = LK m t v (m (57 + 5 * v + 4)) ∧ Fr [L + 5] M r.2) := by
  have t9 := hI.t.2
  have v10 := hI.v.2
  obtain ⟨hR1, hR2⟩ := hR
  obtain ⟨l1, l2, l3, l4, l5, l6, l7, l8⟩ := lnL hL
  have hq4 := lnM hq
  have g6 : gI M L 6 = m 1 := hR1
  unfold f_X2_weighs LK
  rw [g6]
  have oV : ∀ (N : Mm) (c : Nat), MR N q m → c < 5 → f_X4_ofVisitor N q (nI v) (nI c) = m (57 + 5 * v + c) := fun N c h hc => ofV hq h (by omega) hc
  have oT : ∀ (N : Mm) (c : Nat), MR N q m → c < 5 → f_X4_ofThing N q (nI t) (nI c) = m (12 + 5 * t + c) := fun N c h hc => ofT hq h (by omega) hc
  by_cases c1 : m 1 = -1
  · rw [if_pos c1, if_pos c1]
    exact Tr.some ⟨oV M 1 hM (by decide), Fr.rf⟩
  · rw [if_neg c1, if_neg c1]
    rcases hR2 with h2 | ⟨u, a1, a2, a3, a4, a5, a6, a7, a8, a9⟩
    · exact absurd h2 c1
    have pt : ∀ (N : Mm) (k : Nat) (x : Int32), k < 6 → t_X9_put N (L + 5) (nI k) x = sI N (L + 5) k x := fun N k x hk => put_nI l5 hk
    have kM : ∀ (N : Mm) (k : Nat) (x : Int32), MR N q m → MR (sI N (L + 5) k x) q m := fun N k x h => h.fr (fun i h1 h2 => sI_fn (by omega))
    rw [show f_X4_ofVisitor M q (nI v) 0 = _ from oV M 0 hM (by decide), show t_X9_put M (L + 5) 0 (m (57 + 5 * v + 0)) = _ from pt M 0 _ (by decide), Option.bind_some]
    have h1 := kM M 0 (m (57 + 5 * v + 0)) hM
    generalize e1 : sI M (L + 5) 0 (m (57 + 5 * v + 0)) = N1 at h1
    rw [show f_X4_ofVisitor N1 q (nI v) 1 = _ from oV N1 1 h1 (by decide), show t_X9_put N1 (L + 5) 1 (m (57 + 5 * v + 1)) = _ from pt N1 1 _ (by decide), Option.bind_some]
    have h2 := kM N1 1 (m (57 + 5 * v + 1)) h1
    generalize e2 : sI N1 (L + 5) 1 (m (57 + 5 * v + 1)) = N2 at h2
    rw [show f_X4_ofVisitor N2 q (nI v) 2 = _ from oV N2 2 h2 (by decide), show t_X9_put N2 (L + 5) 2 (m (57 + 5 * v + 2)) = _ from pt N2 2 _ (by decide), Option.bind_some]
    have h3 := kM N2 2 (m (57 + 5 * v + 2)) h2
    generalize e3 : sI N2 (L + 5) 2 (m (57 + 5 * v + 2)) = N3 at h3
    rw [show f_X4_ofThing N3 q (nI t) 0 = _ from oT N3 0 h3 (by decide), show t_X9_put N3 (L + 5) 3 (m (12 + 5 * t + 0)) = _ from pt N3 3 _ (by decide), Option.bind_some]
    have h4 := kM N3 3 (m (12 + 5 * t + 0)) h3
    generalize e4 : sI N3 (L + 5) 3 (m (12 + 5 * t + 0)) = N4 at h4
    rw [show f_X4_ofThing N4 q (nI t) 4 = _ from oT N4 4 h4 (by decide), show t_X9_put N4 (L + 5) 4 (m (12 + 5 * t + 4)) = _ from pt N4 4 _ (by decide), Option.bind_some]
    have h5 := kM N4 4 (m (12 + 5 * t + 4)) h4
    generalize e5 : sI N4 (L + 5) 4 (m (12 + 5 * t + 4)) = N5 at h5
    rw [show gI N5 q 7 = m 6 from h5.2.2.2.2.2.2.1, show t_X9_put N5 (L + 5) 5 (m 6) = _ from pt N5 5 _ (by decide), Option.bind_some]
    have h6 := kM N5 5 (m 6) h5
    generalize e6 : sI N5 (L + 5) 5 (m 6) = N6 at h6
    rw [show f_X4_ofVisitor N6 q (nI v) 4 = _ from oV N6 4 h6 (by decide), Option.bind_some]
    have fr6 : Fr [L + 5] M N6 := by
      rw [← e6, ← e5, ← e4, ← e3, ← e2, ← e1]
      exact ((((((Fr.sI (by simp)).tr (Fr.sI (by simp))).tr (Fr.sI (by simp))).tr (Fr.sI (by simp))).tr (Fr.sI (by simp))).tr (Fr.sI (by simp)))
    have p6 : ∀ k, k < 6 → N6.1 (L + 5) k = PK m t v k := fun k hk => by
      rw [← e6, ← e5, ← e4, ← e3, ← e2, ← e1]
      unfold PK
      simp only [sI_at, true_and]
      by_cases d0 : k = 0
      · subst d0; rfl
      · by_cases d1 : k = 1
        · subst d1; rfl
        · by_cases d2 : k = 2
          · subst d2; rfl
          · by_cases d3 : k = 3
            · subst d3; rfl
            · by_cases d4 : k = 4
              · subst d4; rfl
              · have d5 : k = 5 := by omega
                subst d5; rfl
    have h66 : PK m t v 6 = 0 := rfl
    generalize hP : PK m t v = P at p6 h66 ⊢
    generalize hG : txL (txm m) (m 2).toNatClampNeg = G at a1
    have hok : okU u := txL_k (hG.trans a1)
    rw [a1]
    have n6 : ∀ i, i ≠ L + 5 → N6.1 i = M.1 i := fun i hi => (fr6 i (by simp; omega)).1
    have g66 : gI N6 L 6 = nI u.length := by show N6.1 L 6 = _; rw [n6 L (by omega)]; exact hR1.trans a5
    have lp : loop FU (fun a_10 => f_X2_weighs_L114 N6 L (nI t) (m (57 + 5 * v + 4)) a_10.1 a_10.2.1 a_10.2.2) (0, 0, 0) = some (wgU P (m (57 + 5 * v + 4)) (nI t) u) := by
      refine (lp0 (Q := fun r : Int32 => r = wgU P (m (57 + 5 * v + 4)) (nI t) u) (fun k (s : Int32 × Int32) => (s.1, s.2, nI k)) u.length (fun k s => s.1 = wgU P (m (57 + 5 * v + 4)) (nI t) (u.take k) ∧ s.2 = nI (pr (u.take k)).length) (by omega) (0, 0) rfl ⟨h66.symm, rfl⟩ (fun k s hk hs => ?_) (fun s hs => ?_)).eq
      · obtain ⟨s1, s2⟩ := hs
        obtain ⟨y, z⟩ := s
        have s1 : y = _ := s1
        have s2 : z = _ := s2
        show Tr (f_X2_weighs_L114 N6 L (nI t) (m (57 + 5 * v + 4)) y z (nI k)) _
        obtain ⟨b1, b2, b3⟩ := a9 k hk
        rw [gD_in hk] at b1 b2
        rw [pr_take hk] at b3
        have hcut := pr_cut hk
        have hlen : (pr u).length = (pr (u.take k)).length + (u[k].2.2.length + (pr (u.drop (k + 1))).length) := by rw [hcut, List.length_append, List.length_append]
        have hp : ∀ x, x < u[k].2.2.length → N6.1 (L + 4) ((pr (u.take k)).length + x) = u[k].2.2.getD x 0 := fun x hx => by
          rw [n6 _ (by omega), a8 _ (by omega), hcut, gD_r, gD_l hx]
        have hh := holdC (mk := m (57 + 5 * v + 4)) p6 l5 l4 hp (hok _ (List.getElem_mem hk)) (by omega)
        rw [List.length_append] at b3
        unfold f_X2_weighs_L114 f_X2_weighs_J114_157
        rw [g66, if_neg (by rw [nI_leI (by omega) (by omega)]; omega), at_nI l2 (by omega), at_nI l3 (by omega), at_nI l1 (by omega), n6 (L + 2) (by omega), n6 (L + 3) (by omega), n6 (L + 1) (by omega), b1, b2, b3, s2, hh, Option.bind_some, show nI k + 1 = nI (k + 1) by rw [l_1, nI_add]]
        have new : wgU P (m (57 + 5 * v + 4)) (nI t) (u.take (k + 1)) = wg1 P (m (57 + 5 * v + 4)) (nI t) y u[k] := by rw [← List.take_append_getElem hk, wgU_snoc, s1]
        have len2 : nI (pr (u.take (k + 1))).length = nI ((pr (u.take k)).length + u[k].2.2.length) := by rw [pr_take hk, List.length_append]
        have fin : ∀ y2, y2 = wg1 P (m (57 + 5 * v + 4)) (nI t) y u[k] → Tr (some (Sum.inl (y2, nI ((pr (u.take k)).length + u[k].2.2.length), nI (k + 1))) : Option ((Int32 × Int32 × Int32) ⊕ Int32)) (fun x => (∃ s' : Int32 × Int32, x = .inl (s'.1, s'.2, nI (k + 1)) ∧ s'.1 = wgU P (m (57 + 5 * v + 4)) (nI t) (u.take (k + 1)) ∧ s'.2 = nI (pr (u.take (k + 1))).length) ∨ ∃ r, x = .inr r ∧ r = wgU P (m (57 + 5 * v + 4)) (nI t) u) := fun y2 hy => Tr.some (Or.inl ⟨(y2, nI ((pr (u.take k)).length + u[k].2.2.length)), rfl, hy.trans new.symm, len2.symm⟩)
        have hold : ∀ hw : (u[k].1 = -1 ∨ u[k].1 = nI t), Tr (if hdP P (m (57 + 5 * v + 4)) u[k].2.2 = true then ((some (y + u[k].2.1)).bind (fun x9 => some (.inl (x9, nI ((pr (u.take k)).length + u[k].2.2.length), nI (k + 1))))) else (some (.inl (y, nI ((pr (u.take k)).length + u[k].2.2.length), nI (k + 1)))) : Option ((Int32 × Int32 × Int32) ⊕ Int32)) (fun x => (∃ s' : Int32 × Int32, x = .inl (s'.1, s'.2, nI (k + 1)) ∧ s'.1 = wgU P (m (57 + 5 * v + 4)) (nI t) (u.take (k + 1)) ∧ s'.2 = nI (pr (u.take (k + 1))).length) ∨ ∃ r, x = .inr r ∧ r = wgU P (m (57 + 5 * v + 4)) (nI t) u) := fun hw => by
          by_cases d : hdP P (m (57 + 5 * v + 4)) u[k].2.2 = true
          · rw [if_pos d, Option.bind_some]; exact fin _ (by unfold wg1; rw [if_pos ⟨hw, d⟩])
          · rw [if_neg d]; exact fin _ (by unfold wg1; rw [if_neg (fun h => d h.2)])
        by_cases w1 : u[k].1 = -1
        · rw [if_pos w1]; exact hold (Or.inl w1)
        · rw [if_neg w1]
          by_cases w2 : u[k].1 = nI t
          · rw [if_pos w2]; exact hold (Or.inr w2)
          · rw [if_neg w2]; exact fin _ (by unfold wg1; rw [if_neg (fun h => h.1.elim w1 w2)])
      · obtain ⟨s1, s2⟩ := hs
        show Tr (f_X2_weighs_L114 N6 L (nI t) (m (57 + 5 * v + 4)) s.1 s.2 (nI u.length)) _
        unfold f_X2_weighs_L114
        rw [g66, if_pos (by rw [nI_leI (by omega) (by omega)]; omega)]
        rw [List.take_length] at s1
        exact Tr.some ⟨_, rfl, s1⟩
    rw [lp, Option.bind_some]
    refine Tr.some ⟨?_, fr6⟩
    show mx _ 0 = gr0 _
    generalize wgU P (m (57 + 5 * v + 4)) (nI t) u = z
    unfold mx gr0
    by_cases d : (0 : Int32) ≤ z
    · rw [if_pos d, if_neg (Int32.not_lt.mpr d)]
    · rw [if_neg d, if_pos (Int32.not_le.mp d)]
end LAWF
