/-! hall -/
section HALL
variable {LR : Mm → Nat → (Nat → Int32) → Prop} {LK : (Nat → Int32) → Nat → Nat → Int32 → Int32} {M N Mc Mr Nc Nr : Mm} {e p r i j k n q B l a f A : Nat} {tx : Nat → Int32} {x y v b lo hi x1 x2 x3 x4 x5 : Int32} {w : Nat} {m m2 : Nat → Int32}
theorem rvV_lo (hV : vN m < 10) (hk : k ≠ 4) (h : k < 57 ∨ 107 ≤ k) : ∀ c, c ≤ 4 → rvV tx e m i c k = m k := by
  intro c
  induction c with
  | zero =>
    intro _
    show uk m 4 _ k = _
    rw [uk_ne hk]
  | succ c ih =>
    intro hc
    show uk (rvV tx e m i c) (57 + 5 * vN m + c) _ k = _
    rw [uk_ne (by omega)]
    exact ih (by omega)
theorem hL_lo (ht : TT tx e) (hI : Inv m B) (h : hL tx e m i = .inr (m2, j)) (hk : k < 3 ∨ (6 ≤ k ∧ k < 12) ∨ 107 ≤ k) : m2 k = m k := by
  have hT := hI.t
  have hV := hI.v
  unfold hL at h
  by_cases c1 : wdT tx e i = 300 ∧ tN m < 9
  · rw [if_pos c1] at h
    obtain ⟨h1, h2, h3, h4, h5, h6⟩ := hTh_ok h
    rw [h5]
    exact addT_ne (by omega) (by omega)
  · rw [if_neg c1] at h
    by_cases c2 : wdT tx e i = 304 ∧ vN m < 10
    · rw [if_pos c2] at h
      obtain ⟨h1, k2, h2, h3⟩ := hVi_ok h
      rw [h3, uk_ne (by omega)]
      exact rvV_lo c2.2 (by omega) (by omega) 4 (Nat.le_refl _)
    · rw [if_neg c2] at h
      by_cases c3 : wdT tx e i = 307
      · rw [if_pos c3] at h
        cases hn : named tx e 307 1 9 i with
        | some b => rw [hn] at h; cases h
        | none =>
          rw [hn] at h
          cases h
          exact uk_ne (by omega)
      · rw [if_neg c3] at h
        by_cases c4 : wdT tx e i = 308
        · rw [if_pos c4] at h
          cases hn : named tx e 308 0 (nI (tN m) - 1) i with
          | some b => rw [hn] at h; cases h
          | none =>
            rw [hn] at h
            obtain ⟨z1, z2, z3⟩ := nm_iff.mp (named_ok hn).2
            obtain ⟨z, z4, z5⟩ := vl_num ht z1
            have zT : z < tN m := by
              rw [z4] at z3
              by_cases f : tN m = 0
              · exfalso
                refine z3 ?_
                rw [f, Int32.lt_iff_toInt_lt, nI_toInt (by omega)]
                have : (nI 0 - 1 : Int32).toInt = -1 := rfl
                omega
              · rw [l_1, nI_subI (by omega), nI_ltI (by omega) (by omega)] at z3
                omega
            cases h
            rw [z4, nI_clamp (by omega)]
            exact uk_ne (by omega)
        · rw [if_neg c4] at h; cases h
theorem hR_lo (ht : TT tx e) (hI : Inv m B) (h : hR tx e m = .inr m2) (hk : k < 3 ∨ (6 ≤ k ∧ k < 12) ∨ 107 ≤ k) : m2 k = m k := by
  have key : ∀ n m i, Inv m B → hF tx e n m i = .inr m2 → m2 k = m k := by
    intro n
    induction n with
    | zero => intro m i _ h; cases h
    | succ n ih =>
      intro m i hI h
      rw [hF_succ] at h
      cases hl : hL tx e m i with
      | inl b => rw [hl] at h; cases h
      | inr o =>
        obtain ⟨m3, j⟩ := o
        rw [hl] at h
        have h : (if wdT tx e j = 330 then Sum.inr m3 else if wdT tx e j = 322 then hF tx e n m3 (j + 1) else .inl j) = .inr m2 := h
        have h3 := hL_lo ht hI hl hk
        by_cases c1 : wdT tx e j = 330
        · rw [if_pos c1] at h; cases h; exact h3
        · rw [if_neg c1] at h
          by_cases c2 : wdT tx e j = 322
          · rw [if_pos c2] at h; rw [ih m3 (j + 1) (hL_inv ht hI hl) h, h3]
          · rw [if_neg c2] at h; cases h
  unfold hR at h
  by_cases c : wdT tx e 0 = 330
  · rw [if_pos c] at h; cases h; rfl
  · rw [if_neg c] at h; exact key 14 m 0 hI h
theorem Inv.u0 {z : Nat} (hI : Inv m B) (h2 : z ≤ 12) : Inv (uk m 0 (nI z)) B := by
  have hV := hI.v
  have hT := hI.t
  obtain ⟨e1, e2, e3, e4, e5, e6, e7, e8, e9⟩ := hI
  have et : tN (uk m 0 (nI z)) = tN m := by unfold tN; rw [uk_ne (by decide)]
  have ev : vN (uk m 0 (nI z)) = vN m := by unfold vN; rw [uk_ne (by decide)]
  have eh : hN (uk m 0 (nI z)) = hN m := by unfold hN; rw [uk_ne (by decide)]
  refine ⟨?_, ?_, ?_, ?_, ?_, ?_, fun t ht => ?_, fun v hv => ?_, fun a ha => ?_⟩
  · rw [uk_ne (by decide)]; exact e1
  · rw [uk_ne (by decide)]; exact e2
  · rw [uk_eq]; exact isN_nI h2 (by decide)
  · rw [uk_ne (by decide)]; exact e4
  · rw [uk_ne (by decide)]; exact e5
  · rw [eh, uk_ne (by decide)]; exact e6
  · rw [et] at ht
    rw [uk_ne (by omega), uk_ne (by omega), uk_ne (by omega), uk_ne (by omega), uk_ne (by omega)]
    exact e7 t ht
  · rw [ev] at hv
    rw [uk_ne (by omega), uk_ne (by omega)]
    exact e8 v hv
  · rw [eh] at ha
    rw [ev, uk_ne (by omega)]
    exact e9 a ha
/-- a text that was wrong, or is not taken: the tape used up, the fault told -/
theorem RR_txt (HL : LSpec LR LK) (h : RR LR n Mc Mr) (hf : ∀ i, i < 82 → i ≠ 1 → i ≠ 69 → i ≠ 75 → i ≠ 81 → (i < Mc.2.2 1 4 ∨ Mc.2.2 1 4 + 3 < i) → (i < Mc.2.2 1 6 ∨ Mc.2.2 1 6 + 5 < i) → Nc.1 i = Mc.1 i) (h1 : ∀ b, b ≠ 1 → b ≠ 2 → Nc.1 1 b = Mc.1 1 b) (h11 : Nc.1 1 1 = 0) (h12 : Nc.1 1 2 = Nr.1 109 12) (hs : Nc.2.2 1 = Mc.2.2 1 ∧ Nc.2.2 3 = Mc.2.2 3) (hr : Nr.1 110 = Mr.1 110 ∧ Nr.1 111 = Mr.1 111 ∧ Nr.1 113 = Mr.1 113 ∧ (∀ k, k = 3 ∨ k = 6 → Nr.1 109 k = Mr.1 109 k) ∧ Nr.1 109 8 = 0) : RR LR (n + 1) Nc Nr := by
  have h := RR_succ h
  obtain ⟨⟨k1, k2, k3, k4, k5, k6, k7⟩, ⟨j1, j2, j3, j4, j5⟩, ⟨a1, a2, a3⟩, r4, r5, ⟨d1, d2, d3⟩, ⟨e1, e2, e3⟩⟩ := h
  obtain ⟨s1, s3⟩ := hs
  obtain ⟨q1, q2, q3, q4, q5⟩ := hr
  have m1 := md4 k1
  have m2 := md4 k2
  have L1 := (lnL j1).2.2.2.2.2
  have L2 := (lnL j2).2.2.2.2.2
  have fm : ∀ q, kd q = 4 → q ≠ Mc.2.2 1 4 → ∀ i, q ≤ i → i < q + 4 → Nc.1 i = Mc.1 i := fun q hq hne i g1 g2 => by
    have := md4 hq
    exact hf i (by omega) (by omega) (by omega) (by omega) (by omega) (by omega) (by omega)
  have fl : ∀ L, kd L = 2 → L ≠ Mc.2.2 1 6 → ∀ i, L ≤ i → i < L + 5 → Nc.1 i = Mc.1 i := fun L hq hne i g1 g2 => by
    have := (lnL hq).2.2.2.2.2
    exact hf i (by omega) (by omega) (by omega) (by omega) (by omega) (by omega) (by omega)
  unfold RR
  rw [s1, s3, h1 9 (by decide) (by decide), h1 11 (by decide) (by decide), h11, h12, q1, q2, q3, q4 3 (by simp), q4 6 (by simp), q5]
  refine ⟨⟨k1, k2, k3, k4, k5, k6, k7⟩, ⟨j1, j2, j3, j4, j5⟩, ⟨a1.fr (fm _ k1 k3), a2, HL.1 _ _ _ _ a3 (fl _ j1 j3)⟩, ⟨isN_nI (a := 0) (by decide) (by decide), rfl, fun k hk => ?_⟩, rfl, ⟨d1, d2, fun hh => ?_⟩, ⟨e1, e2, fun j hj => ?_⟩⟩
  · have : ((0 : Int32)).toNatClampNeg = 0 := rfl
    omega
  · obtain ⟨y1, y2, y3⟩ := d3 hh
    exact ⟨y1.fr (fm _ kd60 (by omega)), y2, HL.1 _ _ _ _ y3 (fl _ kd76 (by omega))⟩
  · obtain ⟨y1, y2, y3⟩ := e3 j hj
    have hj2 : j < 12 := by have := e1.2; omega
    exact ⟨y1.fr (fm _ (k6 j hj2).1 (k6 j hj2).2.2.2), y2, y3⟩
theorem s_2 (HL : LSpec LR LK) (h : RR LR n Mc Mr) : ∃ Nc Nr, so_2 x1 x2 x3 x4 x5 Mc Mr Nc Nr ∧ RR LR (n + 1) Nc Nr := by
  obtain ⟨hk, hkL, hM, hI, hR'⟩ := h.cur
  have h0 := h
  obtain ⟨⟨k1, k2, k3, k4, k5, k6, k7⟩, ⟨j1, j2, j3, j4, j5⟩, ⟨a1, a2, a3⟩, ⟨b1, b2, b3⟩, c1, ⟨d1, d2, d3⟩, ⟨e1, e2, e3⟩⟩ := h
  have m1 := md4 k1
  have m2' := md4 k2
  have L1 := (lnL j1).2.2.2.2.2
  obtain ⟨b1, b1'⟩ := b1
  generalize hA : (Mr.1 109 8).toNatClampNeg = A at b1 b1' b3
  have ht : TT (fun k => Mr.1 114 k) A := ⟨b1', fun i hi => (b3 i hi).2⟩
  -- the class
  obtain ⟨N3, p1, p2, p3⟩ := copyC k2 k1 (fun e => k3 e.symm) a1
  have eN3 : N3.2.2 1 = Mc.2.2 1 := (p3 1 (by simp; omega)).2.2
  have g11 : gI N3 1 1 = nI A := by show N3.1 1 1 = _; rw [(p3 1 (by simp; omega)).1]; exact b2.trans b1
  have hx4 : TxC (sI N3 1 1 0) (fun k => Mr.1 114 k) A := ⟨b1', fun i hi => ⟨by rw [sI_fn (by decide), (p3 2 (by simp; omega)).1]; exact (b3 i hi).1, (b3 i hi).2⟩⟩
  have hM4 : MR (sI N3 1 1 0) (Mc.2.2 1 4) (Mr.1 110) := p2.fr (fun i h1 h2 => sI_fn (by omega))
  obtain ⟨rc, q1, q2, q3⟩ := readC ht hx4 k2 hM4 hI
  have F4 : ∀ i, i ≠ 1 → i < 82 → (i < Mc.2.2 1 4 ∨ Mc.2.2 1 4 + 3 < i) → rc.2.1 i = Mc.1 i := fun i h1 h2 h3 => by
    rw [(q2 i (by simp; omega)).1, sI_fn h1, (p3 i (by simp; omega)).1]
  have F41 : ∀ b, b ≠ 1 → rc.2.1 1 b = Mc.1 1 b := fun b hb => by
    rw [(q2 1 (by simp; omega)).1, sI_at, if_neg (by omega), (p3 1 (by simp; omega)).1]
  have F411 : rc.2.1 1 1 = 0 := by rw [(q2 1 (by simp; omega)).1, sI_at, if_pos ⟨rfl, rfl⟩]
  have R4 : rc.2.2.2 1 = Mc.2.2 1 := by
    rw [(q2 1 (by simp; omega)).2.2]; exact eN3
  have R43 : rc.2.2.2 3 = Mc.2.2 3 := by
    rw [(q2 3 (by simp; omega)).2.2]; exact (p3 3 (by simp; omega)).2.2
  have cc : ∀ X, (f_X9_hall Mc = X) = ((some (sI rc.2 1 2 (gI rc.2 98 8))).bind (fun M9 => if rc.1 = true then ((some (gR M9 1 3)).bind (fun q10 => if kd q10 = 4 then (if (gI M9 q10 5) < 12 then ((some (gR M9 1 3)).bind (fun q11 => if kd q11 = 4 then ((some (gR M9 1 4)).bind (fun q12 => if kd q12 = 4 then ((some (sR M9 1 3 q12)).bind (fun M13 => (some (sR M13 1 4 q11)).bind (fun M14 => (some (gR M14 1 3)).bind (fun q15 => if kd q15 = 4 then ((some (sI M14 q15 5 ((gI M14 q15 5) + 1))).bind (fun M16 => (some (sI M16 1 11 0)).bind (fun M17 => (some (gR M17 1 3)).bind (fun q18 => if kd q18 = 4 then (some (.inl ((gI M17 q18 5), M17))) else none)))) else none)))) else none)) else none)) else (some (.inr (3, M9)))) else none)) else (some (.inr (1, M9)))) = X) := fun X => by
    unfold f_X9_hall f_X9_useTapeUp
    rw [Option.bind_some, show gR Mc 1 4 = Mc.2.2 1 4 from rfl, if_pos k2, Option.bind_some, show gR Mc 1 3 = Mc.2.2 1 3 from rfl, if_pos k1, p1, Option.bind_some, Option.bind_some, show gR N3 1 4 = Mc.2.2 1 4 from by show N3.2.2 1 4 = _; rw [eN3], if_pos k2, Option.bind_some, g11, q1, Option.bind_some]
  -- the reference
  obtain ⟨P, o1, o2, o3⟩ := asideR (M := Mr)
  have hbg : f_X10_begins P = some (sI (sI (sI (sI (sI (sI P 109 12 (-1)) 109 9 (-1)) 109 10 (nI A)) 109 8 0) 109 11 0) 109 13 0) := by
    unfold f_X10_begins
    simp only [Option.bind_some]
    have : gI (sI (sI P 109 12 (-1)) 109 9 (-1)) 109 8 = nI A := by
      show (sI (sI P 109 12 (-1)) 109 9 (-1)).1 109 8 = _
      rw [sI_at, if_neg (by omega), sI_at, if_neg (by omega), (o2 109 (by simp)).1]; exact b1
    rw [this]
  generalize hQ : sI (sI (sI (sI (sI (sI P 109 12 (-1)) 109 9 (-1)) 109 10 (nI A)) 109 8 0) 109 11 0) 109 13 0 = Q at hbg
  have Q109 : ∀ c, Q.1 109 c = if c = 13 then 0 else if c = 11 then 0 else if c = 8 then 0 else if c = 10 then nI A else if c = 9 then -1 else if c = 12 then -1 else Mr.1 109 c := fun c => by
    rw [← hQ]
    simp only [sI_at, true_and]
    rw [(o2 109 (by simp)).1]
  have Qne : ∀ i, i ≠ 109 → i ≠ 112 → Q.1 i = Mr.1 i := fun i h1 h2 => by
    rw [← hQ, sI_fn h1, sI_fn h1, sI_fn h1, sI_fn h1, sI_fn h1, sI_fn h1, (o2 i (by simpa using h2)).1]
  have Q112 : ∀ k, k < 407 → Q.1 112 k = Mr.1 110 k := fun k hk => by
    rw [← hQ, sI_fn (by decide), sI_fn (by decide), sI_fn (by decide), sI_fn (by decide), sI_fn (by decide), sI_fn (by decide)]
    exact o3 k hk
  have hxR : TxR Q (fun k => Mr.1 114 k) A := ⟨b1', by rw [Q109]; rfl, Or.inl ⟨by rw [Q109]; rfl, fun i hi => by rw [Qne 114 (by decide) (by decide)]⟩, ht.2⟩
  obtain ⟨rr, t1, t2, t3⟩ := readHR hxR (by rw [Q109]; rfl) ⟨0, by rw [Q109]; rfl, Nat.zero_le _, rfl⟩ (Qne 110 (by decide) (by decide)) hI
  have i0 : ibs (0 : Int32) 807 = true := by decide
  have cr : ∀ X, (f_X10_hall Mr = X) = ((if (gI rr.2 109 12) = (-1) then (if (gA rr.2 110 0) = 12 then (f_X10_hall_J43 rr.2 2) else (f_X10_hall_J43 rr.2 0)) else (f_X10_hall_J43 rr.2 1)) = X) := fun X => by
    unfold f_X10_hall
    rw [o1, Option.bind_some, hbg, Option.bind_some, t1, Option.bind_some, if_pos i0]
  have rne : ∀ i, i ≠ 109 → i ≠ 110 → i ≠ 112 → rr.2.1 i = Mr.1 i := fun i h1 h2 h3 => by
    rw [(t2.1 i (by simp [h1, h2])).1]; exact Qne i h1 h3
  have r109 : ∀ c, c ≠ 11 → c ≠ 12 → c ≠ 13 → rr.2.1 109 c = Q.1 109 c := t2.2.1
  -- a text that is not taken
  have bad : ∀ (z : Nat) (w : Int32), f_X9_hall Mc = some (.inr (z, sI rc.2 1 2 (gI rc.2 98 8))) → f_X10_hall Mr = f_X10_hall_J43 rr.2 w → [(1, (1 : Int32)), (3, 2)].lookup z = some w → 0 < w → rc.2.1 98 8 = rr.2.1 109 12 → ∃ Nc Nr, so_2 x1 x2 x3 x4 x5 Mc Mr Nc Nr ∧ RR LR (n + 1) Nc Nr := fun z w h1 h2 h3 h4 h5 => by
    obtain ⟨K, y1, y2, y3⟩ := backR (M := sI rr.2 109 0 w)
    have hK110 : K.1 110 = Mr.1 110 := by
      funext k
      rw [y3]
      by_cases c : k < 407
      · rw [if_pos c, sI_fn (by decide), (t2.1 112 (by simp)).1]; exact Q112 k c
      · rw [if_neg c, sI_fn (by decide), t2.2.2 k (by omega), Qne 110 (by decide) (by decide)]
    have hK109 : ∀ c, c ≠ 0 → K.1 109 c = rr.2.1 109 c := fun c hc => by rw [(y2 109 (by simp)).1, sI_at, if_neg (by omega)]
    have hK0 : K.1 109 0 = w := by rw [(y2 109 (by simp)).1, sI_at, if_pos ⟨rfl, rfl⟩]
    have hKne : ∀ i, i ≠ 109 → i ≠ 110 → i ≠ 112 → K.1 i = Mr.1 i := fun i h1 h2 h3 => by
      rw [(y2 i (by simpa using h2)).1, sI_fn h1]; exact rne i h1 h2 h3
    refine ⟨sI rc.2 1 2 (gI rc.2 98 8), K, ⟨_, 0, h1, ?_, Or.inr ⟨z, rfl, by rw [show gI K 109 0 = w from hK0]; exact h3, by rw [show gI K 109 0 = w from hK0]; exact fun e2 => by rw [e2] at h4; exact absurd h4 (by decide)⟩⟩, RR_txt HL h0 (fun i g1 g2 g3 g4 g5 g6 g7 => by rw [sI_fn g2]; exact F4 i g2 g1 g6) (fun b g1 g2 => by rw [sI_at, if_neg (by omega)]; exact F41 b g1) (by rw [sI_at, if_neg (by omega)]; exact F411) ?_ ⟨R4, R43⟩ ⟨hK110, hKne 111 (by decide) (by decide) (by decide), hKne 113 (by decide) (by decide) (by decide), fun k hk => ?_, ?_⟩⟩
    · rw [h2]
      unfold f_X10_hall_J43
      rw [Option.bind_some, t0, if_neg (by rw [Int32.not_le]; exact h4), y1, Option.bind_some]
    · rw [sI_at, if_pos ⟨rfl, rfl⟩, hK109 12 (by decide)]; exact h5
    · rw [hK109 k (by omega), r109 k (by omega) (by omega) (by omega), Q109]
      rcases hk with rfl | rfl
      · rfl
      · rfl
    · rw [hK109 8 (by decide), r109 8 (by decide) (by decide) (by decide), Q109]; rfl
  cases hG : hR (fun k => Mr.1 114 k) A (Mr.1 110) with
  | inl b =>
    rw [hG] at q3 t3
    obtain ⟨q3, q4⟩ : rc.1 = false ∧ rc.2.1 98 8 = nI (bg (fun k => Mr.1 114 k) A b) := q3
    have t3 : Fl rr.2 A (bg (fun k => Mr.1 114 k) A b) := t3
    refine bad 1 1 ?_ ?_ rfl (by decide) (q4.trans t3.2.2.1.symm)
    · rw [cc, q3, Option.bind_some, if_neg (show ¬ false = true by decide)]
    · rw [cr, if_neg t3.ne]
  | inr mm =>
    rw [hG] at q3 t3
    obtain ⟨q3, q4, q5⟩ : rc.1 = true ∧ MR rc.2 (Mc.2.2 1 4) mm ∧ rc.2.1 98 8 = -1 := q3
    obtain ⟨t3, t4⟩ : rr.2.1 109 12 = -1 ∧ rr.2.1 110 = mm := t3
    have hmI : Inv mm (500 * n) := hR_inv ht hI hG
    have lo := fun k (hk : k < 3 ∨ (6 ≤ k ∧ k < 12) ∨ 107 ≤ k) => hR_lo (k := k) ht hI hG hk
    obtain ⟨z1, z2⟩ := hI.2.2.1
    generalize hz : ((Mr.1 110) 0).toNatClampNeg = z at z1 z2
    have mm0 : mm 0 = nI z := by rw [lo 0 (by omega)]; exact z1
    have g98 : gI rc.2 98 8 = -1 := q5
    have gM9 : ∀ q, q ≠ 1 → (sI rc.2 1 2 (-1)).1 q = rc.2.1 q := fun q hq => sI_fn hq
    have nowT : gI (sI rc.2 1 2 (-1)) (Mc.2.2 1 3) 5 = nI z := by
      show (sI rc.2 1 2 (-1)).1 (Mc.2.2 1 3) 5 = _
      rw [gM9 _ (by omega), F4 (Mc.2.2 1 3) (by omega) (by omega) (by omega)]
      exact hM.2.2.2.2.1.trans z1
    have rT : gA rr.2 110 0 = nI z := by show rr.2.1 110 0 = _; rw [t4]; exact mm0
    by_cases c12 : z = 12
    · refine bad 3 2 ?_ ?_ rfl (by decide) (q5.trans t3.symm)
      · rw [cc, g98, q3, Option.bind_some, if_pos rfl, Option.bind_some, show gR (sI rc.2 1 2 (-1)) 1 3 = Mc.2.2 1 3 from by show rc.2.2.2 1 3 = _; rw [R4], if_pos k1, nowT, c12, if_neg (by decide)]
      · rw [cr, if_pos (show gI rr.2 109 12 = -1 from t3), rT, c12, if_pos (by decide)]
    · have hz12 : z < 12 := by omega
      -- the class's new state
      have hsw : ∀ (K : Mm), K = sR (sR (sI rc.2 1 2 (-1)) 1 3 (Mc.2.2 1 4)) 1 4 (Mc.2.2 1 3) → K.1 = (sI rc.2 1 2 (-1)).1 ∧ K.2.2 1 3 = Mc.2.2 1 4 ∧ K.2.2 1 4 = Mc.2.2 1 3 ∧ K.2.2 1 5 = Mc.2.2 1 5 ∧ K.2.2 1 6 = Mc.2.2 1 6 ∧ K.2.2 3 = Mc.2.2 3 := fun K hK => by
        subst hK
        refine ⟨rfl, ?_, ?_, ?_, ?_, ?_⟩
        · rw [sR_at, if_neg (by omega), sR_at, if_pos ⟨rfl, rfl⟩]
        · rw [sR_at, if_pos ⟨rfl, rfl⟩]
        · rw [sR_at, if_neg (by omega), sR_at, if_neg (by omega)]
          show rc.2.2.2 1 5 = _
          rw [R4]
        · rw [sR_at, if_neg (by omega), sR_at, if_neg (by omega)]
          show rc.2.2.2 1 6 = _
          rw [R4]
        · funext b
          rw [sR_at, if_neg (by omega), sR_at, if_neg (by omega)]
          show rc.2.2.2 3 b = _
          rw [R43]
      obtain ⟨u1, u2, u3, u4, u5, u6⟩ := hsw _ rfl
      generalize hK : sR (sR (sI rc.2 1 2 (-1)) 1 3 (Mc.2.2 1 4)) 1 4 (Mc.2.2 1 3) = K at u1 u2 u3 u4 u5 u6
      have K4 : MR K (Mc.2.2 1 4) mm := q4.fr (fun i h1 h2 => by rw [u1]; exact gM9 i (by omega))
      have KT : gI K (Mc.2.2 1 4) 5 = nI z := K4.2.2.2.2.1.trans mm0
      have KM := K4.us (x := nI (z + 1)) k2 (Or.inr (Or.inr (Or.inl ⟨rfl, rfl⟩)))
      generalize hN : sI (sI K (Mc.2.2 1 4) 5 (nI (z + 1))) 1 11 0 = Nc
      have v1 : ∀ i, i ≠ 1 → i ≠ Mc.2.2 1 4 → Nc.1 i = rc.2.1 i := fun i h1 h2 => by
        rw [← hN, sI_fn h1, sI_fn h2, u1]; exact gM9 i h1
      have v11 : ∀ b, b ≠ 11 → b ≠ 2 → Nc.1 1 b = rc.2.1 1 b := fun b h1 h2 => by
        rw [← hN, sI_at, if_neg (by omega), sI_fn (by omega), u1, sI_at, if_neg (by omega)]
      have v2 : Nc.1 1 2 = -1 := by rw [← hN, sI_at, if_neg (by omega), sI_fn (by omega), u1, sI_at, if_pos ⟨rfl, rfl⟩]
      have v3 : Nc.1 1 11 = 0 := by rw [← hN, sI_at, if_pos ⟨rfl, rfl⟩]
      have v4 : Nc.2 = K.2 := by rw [← hN]; rfl
      have vM : MR Nc (Mc.2.2 1 4) (uk mm 0 (nI (z + 1))) := KM.fr (fun i h1 h2 => by rw [← hN, sI_fn (by omega)])
      have fall : ∀ i, i ≠ 1 → i < 82 → (i < Mc.2.2 1 4 ∨ Mc.2.2 1 4 + 3 < i) → Nc.1 i = Mc.1 i := fun i h1 h2 h3 => by
        rw [v1 i h1 (by omega)]; exact F4 i h1 h2 h3
      -- the reference's new state
      generalize hN2 : sI (sI (sI rr.2 109 0 0) 110 0 (nI (z + 1))) 109 6 0 = Nr
      have w110 : Nr.1 110 = uk mm 0 (nI (z + 1)) := by rw [← hN2, sI_fn (by decide), uk_110, sI_fn (by decide), t4]
      have w109 : ∀ c, c ≠ 0 → c ≠ 6 → Nr.1 109 c = rr.2.1 109 c := fun c h1 h2 => by rw [← hN2, sI_at, if_neg (by omega), sI_fn (by decide), sI_at, if_neg (by omega)]
      have w6 : Nr.1 109 6 = 0 := by rw [← hN2, sI_at, if_pos ⟨rfl, rfl⟩]
      have w0 : gI Nr 109 0 = 0 := by show Nr.1 109 0 = 0; rw [← hN2, sI_at, if_neg (by omega), sI_fn (by decide), sI_at, if_pos ⟨rfl, rfl⟩]
      have wne : ∀ i, i ≠ 109 → i ≠ 110 → i ≠ 112 → Nr.1 i = Mr.1 i := fun i h1 h2 h3 => by rw [← hN2, sI_fn h1, sI_fn h2, sI_fn h1]; exact rne i h1 h2 h3
      have hq18 : gR Nc 1 3 = Mc.2.2 1 4 := by show Nc.2.2 1 3 = _; rw [v4]; exact u2
      refine ⟨Nc, Nr, ⟨_, nI (z + 1), ?_, ?_, Or.inl ⟨rfl, w0⟩⟩, ?_⟩
      · rw [cc, g98, q3, Option.bind_some, if_pos rfl, Option.bind_some, show gR (sI rc.2 1 2 (-1)) 1 3 = Mc.2.2 1 3 from by show rc.2.2.2 1 3 = _; rw [R4], if_pos k1, nowT, if_pos (show nI z < 12 by rw [l_12, nI_ltI (by omega) (by omega)]; exact hz12), Option.bind_some, if_pos k1, Option.bind_some, show gR (sI rc.2 1 2 (-1)) 1 4 = Mc.2.2 1 4 from by show rc.2.2.2 1 4 = _; rw [R4], if_pos k2, Option.bind_some, Option.bind_some, hK, Option.bind_some, show gR K 1 3 = Mc.2.2 1 4 from u2, if_pos k2, KT, Option.bind_some, l_1, nI_add, hN, Option.bind_some, Option.bind_some, hq18, if_pos k2, show gI Nc (Mc.2.2 1 4) 5 = nI (z + 1) from vM.2.2.2.2.1.trans uk_eq]
      · rw [cr, if_pos (show gI rr.2 109 12 = -1 from t3), rT, if_neg (show ¬ nI z = 12 by rw [l_12, nI_eq (by omega) (by omega)]; omega)]
        unfold f_X10_hall_J43
        have gz : gA (sI rr.2 109 0 0) 110 0 = nI z := by show (sI rr.2 109 0 0).1 110 0 = _; rw [sI_fn (by decide), t4]; exact mm0
        rw [Option.bind_some, t0, if_pos (by decide), if_pos i0, if_pos i0, gz, l_1, nI_add, show sA (sI rr.2 109 0 0) 110 0 (nI (z + 1)) = sI (sI rr.2 109 0 0) 110 0 (nI (z + 1)) from rfl, Option.bind_some, Option.bind_some, hN2, if_pos i0, show gA Nr 110 0 = nI (z + 1) from by show Nr.1 110 0 = _; rw [w110, uk_eq]]
      · have hs3 : Nc.2.2 1 3 = Mc.2.2 1 4 := hq18
        have hs4 : Nc.2.2 1 4 = Mc.2.2 1 3 := by rw [v4]; exact u3
        have hs5 : Nc.2.2 1 5 = Mc.2.2 1 5 := by rw [v4]; exact u4
        have hs6 : Nc.2.2 1 6 = Mc.2.2 1 6 := by rw [v4]; exact u5
        have hsR : Nc.2.2 3 = Mc.2.2 3 := by rw [v4]; exact u6
        have hB : 500 * n ≤ 500 * (n + 1) := by omega
        have flL : ∀ L, kd L = 2 → ∀ i, L ≤ i → i < L + 5 → Nc.1 i = Mc.1 i := fun L hL i g1 g2 => by
          have := (lnL hL).2.2.2.2.2
          exact fall i (by omega) (by omega) (by omega)
        have flM : ∀ q, kd q = 4 → q ≠ Mc.2.2 1 4 → ∀ i, q ≤ i → i < q + 4 → Nc.1 i = Mc.1 i := fun q hq hne i g1 g2 => by
          have := md4 hq
          exact fall i (by omega) (by omega) (by omega)
        have eL : eqL (Mr.1 110) (Nr.1 110) := by
          rw [w110]
          exact ⟨by rw [uk_ne (by decide)]; exact lo 1 (by omega), by rw [uk_ne (by decide)]; exact lo 2 (by omega), fun k h1 h2 => by rw [uk_ne (by omega)]; exact lo k (by omega)⟩
        unfold RR
        rw [hs3, hs4, hs5, hs6, hsR, v3, v2, v11 9 (by decide) (by decide), v11 1 (by decide) (by decide), F41 9 (by decide), F411, w6, w109 8 (by decide) (by decide), w109 12 (by decide) (by decide), w109 3 (by decide) (by decide), r109 8 (by decide) (by decide) (by decide), r109 3 (by decide) (by decide) (by decide), Q109 8, Q109 3, t3, wne 111 (by decide) (by decide) (by decide), fall 2 (by decide) (by decide) (by omega)]
        refine ⟨⟨k2, k1, fun e => k3 e.symm, k5, k4, fun j hj => ⟨(k6 j hj).1, (k6 j hj).2.1, (k6 j hj).2.2.2, (k6 j hj).2.2.1⟩, k7⟩, ⟨j1, j2, j3, j4, j5⟩, ⟨by rw [w110]; exact vM, by rw [w110]; exact (hmI.mono hB).u0 (by omega), HL.2.1 _ _ _ _ (HL.1 _ _ _ _ a3 (flL _ j1)) eL⟩, ⟨isN_nI (a := 0) (by decide) (by decide), rfl, fun k hk => ?_⟩, rfl, ⟨d1, d2, fun hh => ?_⟩, ⟨isN_nI (a := 0) (by decide) (by decide), rfl, fun j hj => ?_⟩⟩
        · have : ((0 : Int32)).toNatClampNeg = 0 := rfl
          have hk : k < ((0 : Int32)).toNatClampNeg := hk
          omega
        · obtain ⟨y1, y2, y3⟩ := d3 hh
          exact ⟨y1.fr (flM _ kd60 (by omega)), y2.mono hB, HL.1 _ _ _ _ y3 (flL _ kd76)⟩
        · have : ((0 : Int32)).toNatClampNeg = 0 := rfl
          omega
end HALL
