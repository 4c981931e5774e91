/-! a text of the hall, whole: the class -/
section HALLC3
variable {M N : Mm} {e p r i j k n q B l : Nat} {tx : Nat → Int32} {x y v b lo hi : Int32} {w : Nat} {m m2 : Nat → Int32}
theorem addT_ne {c h r : Int32} (h1 : k ≠ 3) (h2 : k < 12 + 5 * tN m ∨ 12 + 5 * tN m + 4 < k) : addT m c h r k = m k := by
  unfold addT
  rw [uk_ne (by omega), uk_ne (by omega), uk_ne (by omega), uk_ne (by omega), uk_ne (by omega), uk_ne h1]
theorem addT_at {c h r : Int32} : addT m c h r 3 = nI (tN m + 1) ∧ addT m c h r (12 + 5 * tN m + 0) = c ∧ addT m c h r (12 + 5 * tN m + 1) = h ∧ addT m c h r (12 + 5 * tN m + 2) = r ∧ addT m c h r (12 + 5 * tN m + 3) = 1 ∧ addT m c h r (12 + 5 * tN m + 4) = 0 := by
  unfold addT
  refine ⟨?_, ?_, ?_, ?_, ?_, ?_⟩
  · rw [uk_ne (by omega), uk_ne (by omega), uk_ne (by omega), uk_ne (by omega), uk_ne (by omega), uk_eq]
  · rw [uk_ne (by omega), uk_ne (by omega), uk_ne (by omega), uk_ne (by omega), uk_eq]
  · rw [uk_ne (by omega), uk_ne (by omega), uk_ne (by omega), uk_eq]
  · rw [uk_ne (by omega), uk_ne (by omega), uk_eq]
  · rw [uk_ne (by omega), uk_eq]
  · rw [uk_eq]
theorem Inv.adT {c h r : Nat} (hI : Inv m B) (hT : tN m < 9) (hc : c ≤ 19) (hh : h ≤ 99) (hr : 1 ≤ r) (hr2 : r ≤ 3) : Inv (addT m (nI c) (nI h) (nI r)) B := by
  have hV := hI.v
  obtain ⟨e1, e2, e3, e4, e5, e6, e7, e8, e9⟩ := hI
  obtain ⟨a3, a0, a1, a2, a4, a5⟩ := addT_at (m := m) (c := nI c) (h := nI h) (r := nI r)
  have ne : ∀ k, k ≠ 3 → (k < 12 + 5 * tN m ∨ 12 + 5 * tN m + 4 < k) → addT m (nI c) (nI h) (nI r) k = m k := fun k h1 h2 => addT_ne h1 h2
  generalize addT m (nI c) (nI h) (nI r) = f at a3 a0 a1 a2 a4 a5 ne ⊢
  have et : tN f = tN m + 1 := by unfold tN; rw [a3, nI_clamp (by have : (m 3).toNatClampNeg = tN m := rfl; omega)]; rfl
  have ev : vN f = vN m := by unfold vN; rw [ne 4 (by decide) (by omega)]
  have eh : hN f = hN m := by unfold hN; rw [ne 7 (by decide) (by omega)]
  refine ⟨?_, ?_, ?_, ?_, ?_, ?_, fun t ht => ?_, fun v hv => ?_, fun a ha => ?_⟩
  · rw [a3]; exact isN_nI (by omega) (by decide)
  · rw [ne 4 (by decide) (by omega)]; exact e2
  · rw [ne 0 (by decide) (by omega)]; exact e3
  · rw [ne 5 (by decide) (by omega)]; exact e4
  · rw [ne 7 (by decide) (by omega)]; exact e5
  · rw [eh, ne 8 (by decide) (by omega)]; exact e6
  · rw [et] at ht
    by_cases c : t = tN m
    · subst c
      rw [a0, a1, a2, a4, a5]
      refine ⟨isN_nI hc (by decide), ⟨isN_nI hr2 (by decide), ?_⟩, isN_nI (a := 1) (by decide) (by decide), isN_nI hh (by decide), isN_nI (a := 0) (by decide) (by decide)⟩
      rw [nI_clamp (by omega)]; exact hr
    · rw [ne _ (by omega) (by omega), ne _ (by omega) (by omega), ne _ (by omega) (by omega), ne _ (by omega) (by omega), ne _ (by omega) (by omega)]
      exact e7 t (by omega)
  · rw [ev] at hv
    rw [ne _ (by omega) (by omega), ne _ (by omega) (by omega)]
    exact e8 v hv
  · rw [eh] at ha
    rw [ev, ne _ (by omega) (by omega)]
    exact e9 a ha
theorem addV_ne {a c g w k2 : Int32} (h1 : k ≠ 4) (h2 : k < 57 + 5 * vN m ∨ 57 + 5 * vN m + 4 < k) : addV m a c g w k2 k = m k := by
  unfold addV
  rw [uk_ne (by omega), uk_ne (by omega), uk_ne (by omega), uk_ne (by omega), uk_ne (by omega), uk_ne h1]
theorem addV_at {a c g w k2 : Int32} : addV m a c g w k2 4 = nI (vN m + 1) ∧ addV m a c g w k2 (57 + 5 * vN m + 1) = c ∧ addV m a c g w k2 (57 + 5 * vN m + 4) = k2 := by
  unfold addV
  refine ⟨?_, ?_, ?_⟩
  · rw [uk_ne (by omega), uk_ne (by omega), uk_ne (by omega), uk_ne (by omega), uk_ne (by omega), uk_eq]
  · rw [uk_ne (by omega), uk_ne (by omega), uk_ne (by omega), uk_eq]
  · rw [uk_eq]
theorem Inv.adV {c k2 : Nat} {a g w : Int32} (hI : Inv m B) (hV : vN m < 10) (hc : c ≤ 9) (hk : k2 ≤ 63) : Inv (addV m a (nI c) g w (nI k2)) B := by
  have hT := hI.t
  obtain ⟨e1, e2, e3, e4, e5, e6, e7, e8, e9⟩ := hI
  obtain ⟨a4, a1, a5⟩ := addV_at (m := m) (a := a) (c := nI c) (g := g) (w := w) (k2 := nI k2)
  have ne : ∀ k, k ≠ 4 → (k < 57 + 5 * vN m ∨ 57 + 5 * vN m + 4 < k) → addV m a (nI c) g w (nI k2) k = m k := fun k h1 h2 => addV_ne h1 h2
  generalize addV m a (nI c) g w (nI k2) = f at a4 a1 a5 ne ⊢
  have ev : vN f = vN m + 1 := by unfold vN; rw [a4, nI_clamp (by have : (m 4).toNatClampNeg = vN m := rfl; omega)]; rfl
  have et : tN f = tN m := by unfold tN; rw [ne 3 (by decide) (by omega)]
  have eh : hN f = hN m := by unfold hN; rw [ne 7 (by decide) (by omega)]
  refine ⟨?_, ?_, ?_, ?_, ?_, ?_, fun t ht => ?_, fun v hv => ?_, fun a ha => ?_⟩
  · rw [ne 3 (by decide) (by omega)]; exact e1
  · rw [a4]; exact isN_nI (by omega) (by decide)
  · rw [ne 0 (by decide) (by omega)]; exact e3
  · rw [ne 5 (by decide) (by omega)]; exact e4
  · rw [ne 7 (by decide) (by omega)]; exact e5
  · rw [eh, ne 8 (by decide) (by omega)]; exact e6
  · rw [et] at ht
    rw [ne _ (by omega) (by omega), ne _ (by omega) (by omega), ne _ (by omega) (by omega), ne _ (by omega) (by omega), ne _ (by omega) (by omega)]
    exact e7 t ht
  · rw [ev] at hv
    by_cases c : v = vN m
    · subst c
      rw [a1, a5]
      exact ⟨isN_nI hc (by decide), isN_nI hk (by decide)⟩
    · rw [ne _ (by omega) (by omega), ne _ (by omega) (by omega)]
      exact e8 v (by omega)
  · rw [eh] at ha
    have := e9 a ha
    rw [ev, ne _ (by omega) (by omega)]
    exact ⟨⟨this.1.1, by omega⟩, by omega⟩
theorem Inv.u5 {z : Nat} (hI : Inv m B) (h1 : 1 ≤ z) (h2 : z ≤ 9) : Inv (uk m 5 (nI z)) B := by
  have hV := hI.v
  have hT := hI.t
  obtain ⟨e1, e2, e3, e4, e5, e6, e7, e8, e9⟩ := hI
  have et : tN (uk m 5 (nI z)) = tN m := by unfold tN; rw [uk_ne (by decide)]
  have ev : vN (uk m 5 (nI z)) = vN m := by unfold vN; rw [uk_ne (by decide)]
  have eh : hN (uk m 5 (nI z)) = hN m := by unfold hN; rw [uk_ne (by decide)]
  refine ⟨?_, ?_, ?_, ?_, ?_, ?_, fun t ht => ?_, fun v hv => ?_, fun a ha => ?_⟩
  · rw [uk_ne (by decide)]; exact e1
  · rw [uk_ne (by decide)]; exact e2
  · rw [uk_ne (by decide)]; exact e3
  · rw [uk_eq, nI_clamp (by omega)]; exact ⟨isN_nI h2 (by decide), h1⟩
  · rw [uk_ne (by decide)]; exact e5
  · rw [eh, uk_ne (by decide)]; exact e6
  · rw [et] at ht
    rw [uk_ne (by omega), uk_ne (by omega), uk_ne (by omega), uk_ne (by omega), uk_ne (by omega)]
    exact e7 t ht
  · rw [ev] at hv
    rw [uk_ne (by omega), uk_ne (by omega)]
    exact e8 v hv
  · rw [eh] at ha
    rw [ev, uk_ne (by omega)]
    exact e9 a ha
theorem named_ok (h : named tx e w lo hi i = none) : wdT tx e i = w ∧ nm tx e lo hi (i + 1) = true := by
  unfold named at h
  by_cases c : wdT tx e i = w
  · rw [if_pos c] at h
    by_cases d : nm tx e lo hi (i + 1) = true
    · exact ⟨c, d⟩
    · rw [if_neg d] at h; cases h
  · rw [if_neg c] at h; cases h
theorem hTh_ok (h : hTh tx e m i = .inr (m2, j)) : nm tx e 0 19 (i + 2) = true ∧ nm tx e 0 99 (i + 4) = true ∧ nm tx e 1 3 (i + 6) = true ∧ atCell m (vl tx e (i + 2)) = none ∧ m2 = addT m (vl tx e (i + 2)) (vl tx e (i + 4)) (vl tx e (i + 6)) ∧ j = i + 7 := by
  unfold hTh at h
  by_cases c1 : wdT tx e (i + 1) = 301
  · rw [if_pos c1] at h
    by_cases c2 : nm tx e 0 19 (i + 2) = true
    · rw [if_pos c2] at h
      by_cases c3 : (atCell m (vl tx e (i + 2))).isSome = true
      · rw [if_pos c3] at h; cases h
      · rw [if_neg c3] at h
        cases c4 : named tx e 302 0 99 (i + 3) with
        | some b => rw [c4] at h; cases h
        | none =>
          rw [c4] at h
          cases c5 : named tx e 303 1 3 (i + 5) with
          | some b => rw [c5] at h; cases h
          | none =>
            rw [c5] at h
            cases h
            exact ⟨c2, (named_ok c4).2, (named_ok c5).2, by simpa using c3, rfl, rfl⟩
    · rw [if_neg c2] at h; cases h
  · rw [if_neg c1] at h; cases h
theorem hVi_ok (h : hVi tx e m i = .inr (m2, j)) : (∀ d, d < 4 → nmd tx e i d = none) ∧ ∃ k2, ((wdT tx e (i + 9) = 306 ∧ wdT tx e (i + 10) = 329 ∧ vl tx e (i + 10) ≠ -1 ∧ k2 = vl tx e (i + 10) ∧ j = i + 11) ∨ (wdT tx e (i + 9) ≠ 306 ∧ k2 = 0 ∧ j = i + 9)) ∧ m2 = uk (rvV tx e m i 4) (57 + 5 * vN m + 4) k2 := by
  have key : ∀ d, d < 4 → (∀ c, c < d → nmd tx e i c = none) → nmd tx e i d = none := fun d hd hc => by
    cases hb : nmd tx e i d with
    | none => rfl
    | some b => rw [hVi_some hd hc hb] at h; cases h
  have k0 := key 0 (by omega) (fun c hc => absurd hc (Nat.not_lt_zero c))
  have k1 := key 1 (by omega) (fun c hc => by rw [show c = 0 by omega]; exact k0)
  have k2 := key 2 (by omega) (fun c hc => by
    have : c = 0 ∨ c = 1 := by omega
    rcases this with rfl | rfl
    · exact k0
    · exact k1)
  have hall : ∀ d, d < 4 → nmd tx e i d = none := fun d hd => key d hd (fun c hc => by
    have : c = 0 ∨ c = 1 ∨ c = 2 := by omega
    rcases this with rfl | rfl | rfl
    · exact k0
    · exact k1
    · exact k2)
  refine ⟨hall, ?_⟩
  rw [hVi_none hall] at h
  by_cases c1 : wdT tx e (i + 9) = 306
  · rw [if_pos c1] at h
    by_cases c2 : wdT tx e (i + 10) = 329 ∧ vl tx e (i + 10) ≠ -1
    · rw [if_pos c2] at h
      cases h
      exact ⟨_, Or.inl ⟨c1, c2.1, c2.2, rfl, rfl⟩, rfl⟩
    · rw [if_neg c2] at h; cases h
  · rw [if_neg c1] at h
    cases h
    exact ⟨_, Or.inr ⟨c1, rfl, rfl⟩, rfl⟩
theorem rvV_addV {k2 : Int32} : uk (rvV tx e m i 4) (57 + 5 * vN m + 4) k2 = addV m (vl tx e (i + 2)) (vl tx e (i + 4)) (vl tx e (i + 6)) (vl tx e (i + 8)) k2 := rfl
theorem vl_mark (ht : TT tx e) (h : wdT tx e i = 329) (h2 : vl tx e i ≠ -1) : ∃ s, vl tx e i = nI s ∧ s < 64 := by
  have he := ht.1
  obtain ⟨c1, c2, c3⟩ := (wd_mks (tx := tx) he (bg tx e i)).mpr ⟨h, h2⟩
  rcases wd_cases (tx := tx) he (bg tx e i) with ⟨d1, d2, d3, d4, d5⟩ | ⟨d1, d2, d3, d4, d5, d6⟩ | ⟨d1, d2, d3, d4, d5, d6, d7⟩ | ⟨d1, d2, d3, d4, d5, d6, d7⟩
  · omega
  · cases hm : mkS tx (bg tx e i) (lrE tx e (bg tx e i) - bg tx e i) with
    | none => exact absurd hm c3
    | some s => exact ⟨s, by show vlP tx e (bg tx e i) = _; rw [d5, hm]; rfl, mkS_lt _ s hm⟩
  · rw [c2] at d2; cases d2
  · rw [c2] at d2; cases d2
theorem hL_inv (ht : TT tx e) (hI : Inv m B) (h : hL tx e m i = .inr (m2, j)) : Inv m2 B := by
  have hT := hI.t
  unfold hL at h
  by_cases c1 : wdT tx e i = 300 ∧ tN m < 9
  · rw [if_pos c1] at h
    obtain ⟨h1, h2, h3, h4, h5, h6⟩ := hTh_ok h
    obtain ⟨z1, z2, z3, z4⟩ := nm_val (l := 0) (n := 19) ht (by decide) (by decide) h1
    obtain ⟨y1, y2, y3, y4⟩ := nm_val (l := 0) (n := 99) ht (by decide) (by decide) h2
    obtain ⟨x1, x2, x3, x4⟩ := nm_val (l := 1) (n := 3) ht (by decide) (by decide) h3
    rw [h5, z2, y2, x2]
    exact hI.adT c1.2 z4 y4 x3 x4
  · rw [if_neg c1] at h
    by_cases c2 : wdT tx e i = 304 ∧ vN m < 10
    · rw [if_pos c2] at h
      obtain ⟨h1, k2, h2, h3⟩ := hVi_ok h
      have n1 : named tx e 317 0 9 (i + 3) = none := h1 1 (by decide)
      obtain ⟨z1, z2, z3, z4⟩ := nm_val (l := 0) (n := 9) ht (by decide) (by decide) (named_ok n1).2
      rw [h3, rvV_addV, show vl tx e (i + 4) = nI z1 from z2]
      rcases h2 with ⟨a1, a2, a3, a4, a5⟩ | ⟨a1, a2, a3⟩
      · obtain ⟨s, s1, s2⟩ := vl_mark ht a2 a3
        rw [a4, s1]
        exact hI.adV c2.2 z4 (by omega)
      · rw [a2]
        exact hI.adV (k2 := 0) c2.2 z4 (by omega)
    · rw [if_neg c2] at h
      by_cases c3 : wdT tx e i = 307
      · rw [if_pos c3] at h
        cases hn : named tx e 307 1 9 i with
        | some b => rw [hn] at h; cases h
        | none =>
          rw [hn] at h
          obtain ⟨z1, z2, z3, z4⟩ := nm_val (l := 1) (n := 9) ht (by decide) (by decide) (named_ok hn).2
          have h : (Sum.inr (uk m 5 (vl tx e (i + 1)), i + 2) : Nat ⊕ ((Nat → Int32) × Nat)) = .inr (m2, j) := h
          rw [z2] at h
          cases h
          exact hI.u5 z3 z4
      · rw [if_neg c3] at h
        by_cases c4 : wdT tx e i = 308
        · rw [if_pos c4] at h
          cases hn : named tx e 308 0 (nI (tN m) - 1) i with
          | some b => rw [hn] at h; cases h
          | none =>
            rw [hn] at h
            obtain ⟨z1, z2, z3⟩ := nm_iff.mp (named_ok hn).2
            obtain ⟨z, z4, z5⟩ := vl_num ht z1
            have zT : z < tN m := by
              rw [z4] at z3
              by_cases f : tN m = 0
              · exfalso
                refine z3 ?_
                rw [f, Int32.lt_iff_toInt_lt, nI_toInt (by omega)]
                have : (nI 0 - 1 : Int32).toInt = -1 := rfl
                omega
              · rw [l_1, nI_subI (by omega), nI_ltI (by omega) (by omega)] at z3
                omega
            have h : (Sum.inr (uk m (12 + 5 * (vl tx e (i + 1)).toNatClampNeg + 3) 0, i + 2) : Nat ⊕ ((Nat → Int32) × Nat)) = .inr (m2, j) := h
            rw [z4, nI_clamp (by omega)] at h
            cases h
            exact hI.ukT (c := 3) (by omega) (by decide) (Or.inr (Or.inr (Or.inl ⟨rfl, isN_nI (a := 0) (by decide) (by decide)⟩)))
        · rw [if_neg c4] at h; cases h
/-- the lines, one behind another -/
def hF (tx : Nat → Int32) (e : Nat) : Nat → (Nat → Int32) → Nat → Nat ⊕ (Nat → Int32)
  | 0, _, i => .inl i
  | k + 1, m, i => match hL tx e m i with | .inl b => .inl b | .inr (m2, j) => if wdT tx e j = 330 then .inr m2 else if wdT tx e j = 322 then hF tx e k m2 (j + 1) else .inl j
def hR (tx : Nat → Int32) (e : Nat) (m : Nat → Int32) : Nat ⊕ (Nat → Int32) := if wdT tx e 0 = 330 then .inr m else hF tx e 14 m 0
theorem hF_succ : hF tx e (k + 1) m i = match hL tx e m i with | .inl b => .inl b | .inr (m2, j) => if wdT tx e j = 330 then .inr m2 else if wdT tx e j = 322 then hF tx e k m2 (j + 1) else .inl j := rfl
theorem hR_inv (ht : TT tx e) (hI : Inv m B) (h : hR tx e m = .inr m2) : Inv m2 B := by
  have key : ∀ k m i, Inv m B → hF tx e k m i = .inr m2 → Inv m2 B := by
    intro k
    induction k with
    | zero => intro m i _ h; cases h
    | succ k ih =>
      intro m i hI h
      rw [hF_succ] at h
      cases hl : hL tx e m i with
      | inl b => rw [hl] at h; cases h
      | inr o =>
        obtain ⟨m3, j⟩ := o
        rw [hl] at h
        have h : (if wdT tx e j = 330 then Sum.inr m3 else if wdT tx e j = 322 then hF tx e k m3 (j + 1) else .inl j) = .inr m2 := h
        have hI3 := hL_inv ht hI hl
        by_cases c1 : wdT tx e j = 330
        · rw [if_pos c1] at h; cases h; exact hI3
        · rw [if_neg c1] at h
          by_cases c2 : wdT tx e j = 322
          · rw [if_pos c2] at h; exact ih m3 (j + 1) hI3 h
          · rw [if_neg c2] at h; cases h
  unfold hR at h
  by_cases c : wdT tx e 0 = 330
  · rw [if_pos c] at h; cases h; exact hI
  · rw [if_neg c] at h; exact key 14 m 0 hI h
def HoI (tx : Nat → Int32) (e q : Nat) (M : Mm) (o : Nat ⊕ (Nat → Int32)) (r : Bool × Mm) : Prop := Fr [q, q + 1, q + 2, 97, 98, 99, 100, 101] M r.2 ∧ match o with | .inl b => r.1 = false ∧ r.2.1 98 8 = nI (bg tx e b) | .inr m2 => r.1 = true ∧ MR r.2 q m2 ∧ r.2.1 98 8 = -1
theorem readC (ht : TT tx e) (hx : TxC M tx e) (hk : kd q = 4) (h : MR M q m) (hI : Inv m B) : Tr (f_X1_readInto M q 2 (nI e)) (HoI tx e q M (hR tx e m)) := by
  have he := ht.1
  have hq := md4 hk
  have hr : rOK 98 := Or.inl rfl
  unfold f_X1_readInto hR
  refine Tr.bind (openC hr hx) (fun M1 h1 => ?_)
  obtain ⟨a1, a2, a3⟩ := h1
  have b1 : MR M1 q m := h.fr (fun j h1 h2 => (a2 j (by simp; omega)).1)
  have F1 : Fr [q, q + 1, q + 2, 97, 98, 99, 100, 101] M M1 := a2.mono (by simp)
  rw [Option.bind_some, a1.wd.1, if_pos isW_wd]
  by_cases c : wdT tx e 0 = 330
  · rw [if_pos c, if_pos c]
    exact Tr.some ⟨F1, rfl, b1, a3⟩
  · rw [if_neg c, if_neg c]
    generalize hG : hF tx e 14 m 0 = G
    refine Tr.bind (Q := fun x => (∃ y, x = .inl y ∧ HoI tx e q M G y) ∨ (∃ K j, x = .inr K ∧ G = .inl j ∧ RdS K 98 tx e j ∧ Fr [q, q + 1, q + 2, 97, 98, 99, 100, 101] M K)) ?_ (fun x hx => ?_)
    · refine lp0 (fun k (N : Mm) => (N, nI k)) 14 (fun k N => ∃ m2 i, RdS N 98 tx e i ∧ MR N q m2 ∧ Inv m2 B ∧ hF tx e (14 - k) m2 i = G ∧ N.1 98 8 = -1 ∧ Fr [q, q + 1, q + 2, 97, 98, 99, 100, 101] M N) (by decide) M1 rfl ⟨m, 0, a1, b1, hI, hG, a3, F1⟩ (fun k N hk2 hP => ?_) (fun N hP => ?_)
      · obtain ⟨m2, i, p1, p2, p3, p4, p5, p6⟩ := hP
        show Tr (f_X1_readInto_L27 N q (nI k)) _
        obtain ⟨y, y1, y2, y3⟩ := lineC ht hk p2 p3 p1
        have F3 : Fr [q, q + 1, q + 2, 97, 98, 99, 100, 101] M y.2 := p6.tr (y2.mono (by simp))
        rw [show 14 - k = (13 - k) + 1 by omega, hF_succ] at p4
        unfold f_X1_readInto_L27
        rw [if_neg (show ¬ (14 : Int32) ≤ nI k by rw [l_14, nI_leI (by omega) (by omega)]; omega), y1, Option.bind_some]
        cases hl : hL tx e m2 i with
        | inl b =>
          rw [hl] at y3 p4
          obtain ⟨y3, y4⟩ : y.1 = false ∧ y.2.1 98 8 = nI (bg tx e b) := y3
          rw [y3, if_neg (by decide)]
          exact Tr.some (Or.inr ⟨_, rfl, Or.inl ⟨_, rfl, by rw [← p4]; exact ⟨F3, rfl, y4⟩⟩⟩)
        | inr o =>
          obtain ⟨m3, j⟩ := o
          have hI3 := hL_inv ht p3 hl
          rw [hl] at y3 p4
          obtain ⟨y3, y4, y5, y6⟩ : y.1 = true ∧ RdS y.2 98 tx e j ∧ MR y.2 q m3 ∧ y.2.1 98 8 = N.1 98 8 := y3
          have p4 : (if wdT tx e j = 330 then Sum.inr m3 else if wdT tx e j = 322 then hF tx e (13 - k) m3 (j + 1) else .inl j) = G := p4
          rw [y3, if_pos rfl, Option.bind_some, y4.wd.1, if_pos isW_wd]
          by_cases c1 : wdT tx e j = 330
          · rw [if_pos c1] at p4
            rw [if_pos c1]
            exact Tr.some (Or.inr ⟨_, rfl, Or.inl ⟨_, rfl, by rw [← p4]; exact ⟨F3, rfl, y5, y6.trans p5⟩⟩⟩)
          · rw [if_neg c1] at p4
            rw [if_neg c1]
            rcases skipC hr he y4 322 with ⟨c2, z, z1, z2, z3, z4, z5⟩ | ⟨c2, z1⟩
            · rw [if_pos c2] at p4
              rw [z1, Option.bind_some, z2, if_pos rfl]
              refine Tr.some (Or.inl ⟨z.2, by rw [l_1, nI_add], m3, j + 1, z3, y5.fr2 hk (z4.mono (by simp)), hI3, ?_, ?_, F3.tr (z4.mono (by simp))⟩)
              · rw [show 14 - (k + 1) = 13 - k by omega]; exact p4
              · rw [z5, y6, p5]
            · rw [if_neg c2] at p4
              rw [z1, Option.bind_some, if_neg (show ¬ false = true by decide), refuseC y4, Option.bind_some]
              refine Tr.some (Or.inr ⟨_, rfl, Or.inl ⟨_, rfl, ?_⟩⟩)
              rw [← p4]
              refine ⟨F3.tr (Fr.sI (by simp)), rfl, ?_⟩
              show (sI y.2 98 8 _).1 98 8 = _
              rw [sI_at, if_pos ⟨rfl, rfl⟩]
      · obtain ⟨m2, i, p1, p2, p3, p4, p5, p6⟩ := hP
        show Tr (f_X1_readInto_L27 N q (nI 14)) _
        unfold f_X1_readInto_L27
        rw [if_pos (by decide)]
        exact Tr.some ⟨_, rfl, Or.inr ⟨N, i, rfl, p4.symm, p1, p6⟩⟩
    · rcases hx with ⟨y, rfl, hy⟩ | ⟨K, j, rfl, hj, hK, hF⟩
      · exact Tr.some hy
      · rw [Sum.elim_inr, refuseC hK, Option.bind_some, hj]
        refine Tr.some ⟨hF.tr (Fr.sI (by simp)), rfl, ?_⟩
        show (sI K 98 8 _).1 98 8 = _
        rw [sI_at, if_pos ⟨rfl, rfl⟩]
end HALLC3
