/-! law -/
section LAW3
variable {M N Mc Mr Nc Nr : Mm} {n q B A : Nat} {x1 x2 x3 x4 x5 : Int32} {m m2 : Nat → Int32}
def eqT (m m2 : Nat → Int32) : Prop := ∀ k, k < 407 → k ≠ 1 → k ≠ 2 → m2 k = m k
theorem eqT_n (e : eqT m m2) : tN m2 = tN m ∧ vN m2 = vN m ∧ hN m2 = hN m := by
  unfold tN vN hN
  rw [e 3 (by decide) (by decide) (by decide), e 4 (by decide) (by decide) (by decide), e 7 (by decide) (by decide) (by decide)]
  exact ⟨rfl, rfl, rfl⟩
theorem MR.ct (h : MR M q m) (e : eqT m m2) : MR M q m2 := by
  obtain ⟨e1, e2, e3, e4, e5, e6, e7, e8, e9, e10⟩ := h
  obtain ⟨t1, t2, t3⟩ := eqT_n e
  refine ⟨fun k hk => ?_, fun k hk => ?_, ?_, ?_, ?_, ?_, ?_, ?_, ?_, fun a c ha hc => ?_⟩
  · rw [e _ (by omega) (by omega) (by omega)]; exact e1 k hk
  · rw [e _ (by omega) (by omega) (by omega)]; exact e2 k hk
  · rw [e _ (by omega) (by omega) (by omega)]; exact e3
  · rw [e _ (by omega) (by omega) (by omega)]; exact e4
  · rw [e _ (by omega) (by omega) (by omega)]; exact e5
  · rw [e _ (by omega) (by omega) (by omega)]; exact e6
  · rw [e _ (by omega) (by omega) (by omega)]; exact e7
  · rw [e _ (by omega) (by omega) (by omega)]; exact e8
  · rw [e _ (by omega) (by omega) (by omega)]; exact e9
  · rw [t3] at ha ⊢
    rw [e _ (by omega) (by omega) (by omega)]
    exact e10 a c ha hc
theorem Inv.ct (h : Inv m B) (e : eqT m m2) : Inv m2 B := by
  have hT := h.t
  have hV := h.v
  obtain ⟨e1, e2, e3, e4, e5, e6, e7, e8, e9⟩ := h
  obtain ⟨t1, t2, t3⟩ := eqT_n e
  refine ⟨?_, ?_, ?_, ?_, ?_, ?_, fun t ht => ?_, fun v hv => ?_, fun a ha => ?_⟩
  · rw [e _ (by omega) (by omega) (by omega)]; exact e1
  · rw [e _ (by omega) (by omega) (by omega)]; exact e2
  · rw [e _ (by omega) (by omega) (by omega)]; exact e3
  · rw [e _ (by omega) (by omega) (by omega)]; exact e4
  · rw [e _ (by omega) (by omega) (by omega)]; exact e5
  · rw [t3, e _ (by omega) (by omega) (by omega)]; exact e6
  · rw [t1] at ht
    rw [e _ (by omega) (by omega) (by omega), e _ (by omega) (by omega) (by omega), e _ (by omega) (by omega) (by omega), e _ (by omega) (by omega) (by omega), e _ (by omega) (by omega) (by omega)]; exact e7 t ht
  · rw [t2] at hv
    rw [e _ (by omega) (by omega) (by omega), e _ (by omega) (by omega) (by omega)]; exact e8 v hv
  · rw [t3] at ha
    rw [t2, e _ (by omega) (by omega) (by omega)]; exact e9 a ha
theorem cpR3 {f : Mm → Int32 → Option ((Mm × Int32) ⊕ Mm)} {i j o N T : Nat} (hT : T < 10000) (hij : i ≠ j) (M : Mm) (hstep : ∀ (K : Mm) k, Fr [i] M K → k < T → f K (nI k) = some (.inl (sI K i (o + k) (K.1 j (N + k)), nI (k + 1)))) (hend : ∀ K : Mm, Fr [i] M K → f K (nI T) = some (.inr K)) : Tr (loop FU (fun a => f a.1 a.2) (M, nI 0)) (fun K => Fr [i] M K ∧ ∀ k, K.1 i k = if o ≤ k ∧ k < o + T then M.1 j (N + (k - o)) else M.1 i k) := by
  refine lp0 (fun k (K : Mm) => (K, nI k)) T (fun t K => Fr [i] M K ∧ ∀ k, K.1 i k = if o ≤ k ∧ k < o + t then M.1 j (N + (k - o)) else M.1 i k) hT M rfl ⟨Fr.rf, fun k => by rw [if_neg (by omega)]⟩ (fun t K ht hP => ?_) (fun K hP => ?_)
  · obtain ⟨hF, hK⟩ := hP
    refine ⟨_, hstep K t hF ht, Or.inl ⟨_, rfl, hF.tr (Fr.sI (by simp)), fun k => ?_⟩⟩
    rw [sI_at, (hF j (by simp; omega)).1]
    by_cases e : k = o + t
    · rw [if_pos ⟨rfl, e⟩, if_pos (by omega), e, show o + t - o = t by omega]
    · rw [if_neg (by omega), hK k]
      by_cases e2 : o ≤ k ∧ k < o + t
      · rw [if_pos e2, if_pos (by omega)]
      · rw [if_neg e2, if_neg (by omega)]
  · exact ⟨_, hend K hP.1, _, rfl, hP⟩
/-- the reference keeps the text -/
theorem keepR {c : Nat} (h10 : M.1 109 10 = nI A) (hA : A ≤ 400) : Tr (f_X10_law_J24 M (nI c) 0) (fun r => r.1 = nI c ∧ r.2.1 109 6 = 0 ∧ r.2.1 109 0 = 0 ∧ (∀ k, k ≠ 0 → k ≠ 6 → r.2.1 109 k = M.1 109 k) ∧ (∀ i, i ≠ 109 → i ≠ 110 → r.2.1 i = M.1 i) ∧ r.2.1 110 1 = nI c ∧ r.2.1 110 2 = nI A ∧ ∀ k, k ≠ 1 → k ≠ 2 → r.2.1 110 k = if 407 ≤ k ∧ k < 407 + A then M.1 114 (k - 407) else M.1 110 k) := by
  unfold f_X10_law_J24
  rw [Option.bind_some, t0, if_pos (by decide), if_pos (show ibs (1 : Int32) 807 = true by decide), show sA (sI M 109 0 0) 110 1 (nI c) = sI (sI M 109 0 0) 110 1 (nI c) from rfl, Option.bind_some, if_pos (show ibs (2 : Int32) 807 = true by decide)]
  have g10 : gI (sI (sI M 109 0 0) 110 1 (nI c)) 109 10 = nI A := by show (sI (sI M 109 0 0) 110 1 (nI c)).1 109 10 = _; rw [sI_fn (by decide), sI_at, if_neg (by omega)]; exact h10
  rw [g10, show sA (sI (sI M 109 0 0) 110 1 (nI c)) 110 2 (nI A) = sI (sI (sI M 109 0 0) 110 1 (nI c)) 110 2 (nI A) from rfl, Option.bind_some]
  have z1 : ∀ i, i ≠ 109 → i ≠ 110 → (sI (sI (sI M 109 0 0) 110 1 (nI c)) 110 2 (nI A)).1 i = M.1 i := fun i h1 h2 => by rw [sI_fn h2, sI_fn h2, sI_fn h1]
  have z2 : ∀ k, (sI (sI (sI M 109 0 0) 110 1 (nI c)) 110 2 (nI A)).1 109 k = if k = 0 then 0 else M.1 109 k := fun k => by
    rw [sI_fn (by decide), sI_fn (by decide), sI_at]
    by_cases d : k = 0
    · rw [if_pos ⟨rfl, d⟩, if_pos d]
    · rw [if_neg (fun h => d h.2), if_neg d]
  have z3 : ∀ k, (sI (sI (sI M 109 0 0) 110 1 (nI c)) 110 2 (nI A)).1 110 k = if k = 2 then nI A else if k = 1 then nI c else M.1 110 k := fun k => by
    rw [sI_at]
    by_cases d : k = 2
    · rw [if_pos ⟨rfl, d⟩, if_pos d]
    · rw [if_neg (fun h => d h.2), if_neg d, sI_at]
      by_cases d : k = 1
      · rw [if_pos ⟨rfl, d⟩, if_pos d]
      · rw [if_neg (fun h => d h.2), if_neg d, sI_fn (by decide)]
  generalize sI (sI (sI M 109 0 0) 110 1 (nI c)) 110 2 (nI A) = P at z1 z2 z3
  have p10 : P.1 109 10 = nI A := by rw [z2, if_neg (by decide)]; exact h10
  obtain ⟨K, t1, t2, t3⟩ := cpR3 (f := fun K k => f_X10_law_L55 K (nI c) k) (i := 110) (j := 114) (o := 407) (N := 0) (T := A) (by omega) (by decide) P (fun K k hF hk => by
    have hg : gI K 109 10 = nI A := (congrFun (hF 109 (by simp)).1 10).trans p10
    show f_X10_law_L55 K (nI c) (nI k) = _
    unfold f_X10_law_L55
    rw [hg, if_neg (by rw [nI_leI (by omega) (by omega)]; omega), if_pos (ibs_nI (by omega) (by decide)), l407, nI_add, if_pos (ib807 (by omega)), sA_nI (by omega), gA_nI (by omega), Option.bind_some, l_1, nI_add, Nat.zero_add]) (fun K hF => by
    have hg : gI K 109 10 = nI A := (congrFun (hF 109 (by simp)).1 10).trans p10
    show f_X10_law_L55 K (nI c) (nI A) = _
    unfold f_X10_law_L55
    rw [hg, if_pos (by rw [nI_leI (by omega) (by omega)]; omega)])
  rw [show loop FU (fun a_8 => f_X10_law_L55 a_8.1 (nI c) a_8.2) (P, 0) = some K from t1, Option.bind_some, Option.bind_some]
  refine Tr.some ⟨rfl, by show (sI K 109 6 0).1 109 6 = 0; rw [sI_at, if_pos ⟨rfl, rfl⟩], ?_, fun k h1 h2 => ?_, fun i h1 h2 => ?_, ?_, ?_, fun k h1 h2 => ?_⟩
  · show (sI K 109 6 0).1 109 0 = 0
    rw [sI_at, if_neg (by omega), (t2 109 (by simp)).1, z2, if_pos rfl]
  · show (sI K 109 6 0).1 109 k = _
    rw [sI_at, if_neg (by omega), (t2 109 (by simp)).1, z2, if_neg h1]
  · show (sI K 109 6 0).1 i = _
    rw [sI_fn h1, (t2 i (by simpa using h2)).1, z1 i h1 h2]
  · show (sI K 109 6 0).1 110 1 = _
    rw [sI_fn (by decide), t3, if_neg (by omega), z3, if_neg (by decide), if_pos rfl]
  · show (sI K 109 6 0).1 110 2 = _
    rw [sI_fn (by decide), t3, if_neg (by omega), z3, if_pos rfl]
  · show (sI K 109 6 0).1 110 k = _
    rw [sI_fn (by decide), t3, Nat.zero_add, z1 114 (by decide) (by decide), z3, if_neg h2, if_neg h1]
theorem s_3 (h : RR LR n Mc Mr) : ∃ Nc Nr, so_3 x1 x2 x3 x4 x5 Mc Mr Nc Nr ∧ RR LR (n + 1) Nc Nr := by
  have HL : LSpec LR LK := LawOK
  have h0 := h
  obtain ⟨⟨k1, k2, k3, k4, k5, k6, k7⟩, ⟨j1, j2, j3, j4, j5⟩, ⟨a1, a2, a3⟩, ⟨b1, b2, b3⟩, c1, ⟨d1, d2, d3⟩, ⟨e1, e2, e3⟩⟩ := h
  have m1 := md4 k1
  have m2' := md4 k2
  have L1 := (lnL j1).2.2.2.2.2
  have L2 := (lnL j2).2.2.2.2.2
  obtain ⟨b1, b1'⟩ := b1
  generalize hA : (Mr.1 109 8).toNatClampNeg = A at b1 b1' b3
  generalize htx : (fun k => if k < A then Mr.1 114 k else if k < 400 then Mr.1 110 (407 + k) else 0) = tx
  have txA : ∀ i, i < A → tx i = Mr.1 114 i := fun i hi => by rw [← htx]; exact if_pos hi
  have ht : TT tx A := ⟨b1', fun i hi => by rw [txA i hi]; exact (b3 i hi).2⟩
  -- the class
  have g11 : gI Mc 1 1 = nI A := b2.trans b1
  have hx4 : TxC (sI Mc 1 1 0) tx A := ⟨b1', fun i hi => by rw [txA i hi]; exact ⟨by rw [sI_fn (by decide)]; exact (b3 i hi).1, (b3 i hi).2⟩⟩
  obtain ⟨rc, q1, q2, q3⟩ := readLC j2 ht hx4
  have F4 : ∀ i, i ≠ 1 → i < 82 → (i < Mc.2.2 1 6 ∨ Mc.2.2 1 6 + 4 < i) → rc.2.1 i = Mc.1 i := fun i h1 h2 h3 => by
    rw [(q2 i (by simp [LR8]; omega)).1, sI_fn h1]
  have F41 : ∀ b, b ≠ 1 → rc.2.1 1 b = Mc.1 1 b := fun b hb => by
    rw [(q2 1 (by simp [LR8]; omega)).1, sI_at, if_neg (by omega)]
  have F411 : rc.2.1 1 1 = 0 := by rw [(q2 1 (by simp [LR8]; omega)).1, sI_at, if_pos ⟨rfl, rfl⟩]
  have R4 : rc.2.2.2 1 = Mc.2.2 1 := (q2 1 (by simp [LR8]; omega)).2.2
  have R43 : rc.2.2.2 3 = Mc.2.2 3 := (q2 3 (by simp [LR8]; omega)).2.2
  have cc : ∀ X, (f_X9_law Mc = X) = ((some (sI rc.2 1 2 (gI rc.2 104 8))).bind (fun M6 => if rc.1 = true then ((some (gR M6 1 5)).bind (fun q7 => if kd q7 = 2 then ((some (gR M6 1 6)).bind (fun q8 => if kd q8 = 2 then ((some (sR M6 1 5 q8)).bind (fun M9 => (some (sR M9 1 6 q7)).bind (fun M10 => (some (sI M10 1 11 0)).bind (fun M11 => (some (gR M11 1 5)).bind (fun q12 => if kd q12 = 2 then (some (.inl ((gI M11 q12 6), M11))) else none))))) else none)) else none)) else (some (.inr (1, M6)))) = X) := fun X => by
    unfold f_X9_law f_X9_useTapeUp
    rw [Option.bind_some, show gR Mc 1 6 = Mc.2.2 1 6 from rfl, if_pos j2, Option.bind_some, g11, q1, Option.bind_some]
  -- the reference
  have hbg : f_X10_begins Mr = some (sI (sI (sI (sI (sI (sI Mr 109 12 (-1)) 109 9 (-1)) 109 10 (nI A)) 109 8 0) 109 11 0) 109 13 0) := by
    unfold f_X10_begins
    simp only [Option.bind_some]
    have : gI (sI (sI Mr 109 12 (-1)) 109 9 (-1)) 109 8 = nI A := by
      show (sI (sI Mr 109 12 (-1)) 109 9 (-1)).1 109 8 = _
      rw [sI_at, if_neg (by omega), sI_at, if_neg (by omega)]; exact b1
    rw [this]
  generalize hQ : sI (sI (sI (sI (sI (sI Mr 109 12 (-1)) 109 9 (-1)) 109 10 (nI A)) 109 8 0) 109 11 0) 109 13 0 = Q at hbg
  have Q109 : ∀ c, Q.1 109 c = if c = 13 then 0 else if c = 11 then 0 else if c = 8 then 0 else if c = 10 then nI A else if c = 9 then -1 else if c = 12 then -1 else Mr.1 109 c := fun c => by
    rw [← hQ]
    simp only [sI_at, true_and]
  have Qne : ∀ i, i ≠ 109 → Q.1 i = Mr.1 i := fun i h1 => by
    rw [← hQ, sI_fn h1, sI_fn h1, sI_fn h1, sI_fn h1, sI_fn h1, sI_fn h1]
  have hxR : TxR Q tx A := ⟨b1', by rw [Q109]; rfl, Or.inl ⟨by rw [Q109]; rfl, fun i hi => by rw [Qne 114 (by decide), txA i hi]⟩, ht.2⟩
  generalize hP : (fun k => if k < 6 then Q.1 115 k else Q.1 109 17 : Nat → Int32) = P
  have hs : StL P (Q.1 109 16) (Q.1 109 15) [] Q := ⟨by show Q.1 109 17 = P 6; rw [← hP]; rfl, by rw [Q109]; rfl, ⟨fun k hk => by rw [← hP]; exact (if_pos hk).symm, rfl⟩, rfl⟩
  obtain ⟨rr, t1, t2, t3⟩ := readLR hxR (by rw [Q109]; rfl) ⟨0, by rw [Q109]; rfl, Nat.zero_le _, rfl⟩ hs
  have cr : ∀ X, (f_X10_law Mr = X) = ((if (gI rr.2 109 12) = (-1) then (f_X10_law_J24 rr.2 rr.1 0) else (f_X10_law_J24 rr.2 rr.1 1)) = X) := fun X => by
    unfold f_X10_law
    rw [hbg, Option.bind_some, t1, Option.bind_some]
  have rne : ∀ i, i ≠ 109 → rr.2.1 i = Mr.1 i := fun i h1 => by
    rw [(t2.1 i (by simpa using h1)).1]; exact Qne i h1
  have r109 : ∀ c, c ≠ 11 → c ≠ 12 → c ≠ 13 → c ≠ 17 → rr.2.1 109 c = Q.1 109 c := t2.2
  cases hG : txL tx A with
  | inl b =>
    rw [hG] at q3 t3
    obtain ⟨q3, q4⟩ : rc.1 = false ∧ rc.2.1 104 8 = nI (bg tx A b) := q3
    have t3 : Fl rr.2 A (bg tx A b) := t3
    have hw : ∀ k, k ≠ 0 → (sI rr.2 109 0 1).1 109 k = rr.2.1 109 k := fun k hk => by rw [sI_at, if_neg (by omega)]
    refine ⟨sI rc.2 1 2 (gI rc.2 104 8), sI rr.2 109 0 1, ⟨_, 0, ?_, ?_, Or.inr ⟨1, rfl, by rw [t0]; rfl, by rw [t0]; decide⟩⟩, RR_txt HL h0 (fun i g1 g2 g3 g4 g5 g6 g7 => by rw [sI_fn g2]; exact F4 i g2 g1 (by omega)) (fun b g1 g2 => by rw [sI_at, if_neg (by omega)]; exact F41 b g1) (by rw [sI_at, if_neg (by omega)]; exact F411) ?_ ⟨R4, R43⟩ ⟨by rw [sI_fn (by decide)]; exact rne 110 (by decide), by rw [sI_fn (by decide)]; exact rne 111 (by decide), by rw [sI_fn (by decide)]; exact rne 113 (by decide), fun k hk => ?_, ?_⟩⟩
    · rw [cc, q3, Option.bind_some, if_neg (show ¬ false = true by decide)]
    · rw [cr, if_neg t3.ne]
      unfold f_X10_law_J24
      rw [Option.bind_some, t0, if_neg (by decide)]
    · rw [sI_at, if_pos ⟨rfl, rfl⟩, hw 12 (by decide)]; exact q4.trans t3.2.2.1.symm
    · rw [hw k (by omega), r109 k (by omega) (by omega) (by omega) (by omega), Q109]
      rcases hk with rfl | rfl
      · rfl
      · rfl
    · rw [hw 8 (by decide), r109 8 (by decide) (by decide) (by decide) (by decide), Q109]; rfl
  | inr o =>
    obtain ⟨u, c⟩ := o
    obtain ⟨bd, hlen, hc12⟩ := txL_bd hG
    rw [hG] at q3 t3
    obtain ⟨q3, q4, ⟨q5, q6, q7⟩, q8⟩ : rc.1 = true ∧ rc.2.1 104 8 = -1 ∧ ClS rc.2 (Mc.2.2 1 6) u ∧ (pr u).length ≤ A := q3
    obtain ⟨t3, t4, t5⟩ : rr.2.1 109 12 = -1 ∧ StL P (Q.1 109 16) (Q.1 109 15) u rr.2 ∧ rr.1 = nI c := t3
    have r10 : rr.2.1 109 10 = nI A := by rw [r109 10 (by decide) (by decide) (by decide) (by decide), Q109]; rfl
    obtain ⟨rk, y1, y2, y3, y4, y5, y6, y7, y8, y9⟩ := keepR (c := c) r10 b1'
    have g98 : gI rc.2 104 8 = -1 := q4
    have gM9 : ∀ q, q ≠ 1 → (sI rc.2 1 2 (-1)).1 q = rc.2.1 q := fun q hq => sI_fn hq
    have hsw : ∀ (K : Mm), K = sR (sR (sI rc.2 1 2 (-1)) 1 5 (Mc.2.2 1 6)) 1 6 (Mc.2.2 1 5) → K.1 = (sI rc.2 1 2 (-1)).1 ∧ K.2.2 1 5 = Mc.2.2 1 6 ∧ K.2.2 1 6 = Mc.2.2 1 5 ∧ K.2.2 1 3 = Mc.2.2 1 3 ∧ K.2.2 1 4 = Mc.2.2 1 4 ∧ K.2.2 3 = Mc.2.2 3 := fun K hK => by
      subst hK
      refine ⟨rfl, ?_, ?_, ?_, ?_, ?_⟩
      · rw [sR_at, if_neg (by omega), sR_at, if_pos ⟨rfl, rfl⟩]
      · rw [sR_at, if_pos ⟨rfl, rfl⟩]
      · rw [sR_at, if_neg (by omega), sR_at, if_neg (by omega)]
        show rc.2.2.2 1 3 = _
        rw [R4]
      · rw [sR_at, if_neg (by omega), sR_at, if_neg (by omega)]
        show rc.2.2.2 1 4 = _
        rw [R4]
      · funext b
        rw [sR_at, if_neg (by omega), sR_at, if_neg (by omega)]
        show rc.2.2.2 3 b = _
        rw [R43]
    obtain ⟨u1, u2, u3, u4, u5, u6⟩ := hsw _ rfl
    generalize hK : sR (sR (sI rc.2 1 2 (-1)) 1 5 (Mc.2.2 1 6)) 1 6 (Mc.2.2 1 5) = K at u1 u2 u3 u4 u5 u6
    generalize hN : sI K 1 11 0 = Nc
    have v1 : ∀ i, i ≠ 1 → Nc.1 i = rc.2.1 i := fun i h1 => by
      rw [← hN, sI_fn h1, u1]; exact gM9 i h1
    have v11 : ∀ b, b ≠ 11 → b ≠ 2 → Nc.1 1 b = rc.2.1 1 b := fun b h1 h2 => by
      rw [← hN, sI_at, if_neg (by omega), u1, sI_at, if_neg (by omega)]
    have v2 : Nc.1 1 2 = -1 := by rw [← hN, sI_at, if_neg (by omega), u1, sI_at, if_pos ⟨rfl, rfl⟩]
    have v3 : Nc.1 1 11 = 0 := by rw [← hN, sI_at, if_pos ⟨rfl, rfl⟩]
    have v4 : Nc.2 = K.2 := by rw [← hN]; rfl
    have fall : ∀ i, i ≠ 1 → i < 82 → (i < Mc.2.2 1 6 ∨ Mc.2.2 1 6 + 4 < i) → Nc.1 i = Mc.1 i := fun i h1 h2 h3 => by
      rw [v1 i h1]; exact F4 i h1 h2 h3
    have hq12 : gR Nc 1 5 = Mc.2.2 1 6 := by show Nc.2.2 1 5 = _; rw [v4]; exact u2
    have z6 : Nc.1 (Mc.2.2 1 6) 6 = nI c := by rw [v1 _ (by omega), ← hlen]; exact q5
    have hsM : gR (sI rc.2 1 2 (-1)) 1 5 = Mc.2.2 1 5 ∧ gR (sI rc.2 1 2 (-1)) 1 6 = Mc.2.2 1 6 := ⟨by show rc.2.2.2 1 5 = _; rw [R4], by show rc.2.2.2 1 6 = _; rw [R4]⟩
    refine ⟨Nc, rk.2, ⟨_, nI c, ?_, ?_, Or.inl ⟨rfl, y4⟩⟩, ?_⟩
    · rw [cc, g98, q3, Option.bind_some, if_pos rfl, Option.bind_some, hsM.1, if_pos j1, Option.bind_some, hsM.2, if_pos j2, Option.bind_some, Option.bind_some, hK, Option.bind_some, hN, Option.bind_some, hq12, if_pos j2, show gI Nc (Mc.2.2 1 6) 6 = nI c from z6]
    · rw [cr, if_pos (show gI rr.2 109 12 = -1 from t3), t5, y1, ← y2]
    · have hs3 : Nc.2.2 1 3 = Mc.2.2 1 3 := by rw [v4]; exact u4
      have hs4 : Nc.2.2 1 4 = Mc.2.2 1 4 := by rw [v4]; exact u5
      have hs5 : Nc.2.2 1 5 = Mc.2.2 1 6 := by rw [v4]; exact u2
      have hs6 : Nc.2.2 1 6 = Mc.2.2 1 5 := by rw [v4]; exact u3
      have hsR : Nc.2.2 3 = Mc.2.2 3 := by rw [v4]; exact u6
      have hB : 500 * n ≤ 500 * (n + 1) := by omega
      have flL : ∀ L, kd L = 2 → L ≠ Mc.2.2 1 6 → ∀ i, L ≤ i → i < L + 5 → Nc.1 i = Mc.1 i := fun L hL hne i g1 g2 => by
        have := (lnL hL).2.2.2.2.2
        exact fall i (by omega) (by omega) (by omega)
      have flM : ∀ q, kd q = 4 → ∀ i, q ≤ i → i < q + 4 → Nc.1 i = Mc.1 i := fun q hq i g1 g2 => by
        have := md4 hq
        exact fall i (by omega) (by omega) (by omega)
      have r110 : rr.2.1 110 = Mr.1 110 := rne 110 (by decide)
      have eT : eqT (Mr.1 110) (rk.2.1 110) := fun k h1 h2 h3 => by rw [y9 k h2 h3, if_neg (by omega), r110]
      have txE : txm (rk.2.1 110) = tx := by
        funext k
        unfold txm
        rw [← htx]
        show (if k < 400 then rk.2.1 110 (407 + k) else 0) = if k < A then Mr.1 114 k else if k < 400 then Mr.1 110 (407 + k) else 0
        by_cases f1 : k < 400
        · rw [if_pos f1, y9 _ (by omega) (by omega), r110, rne 114 (by decide), Nat.add_sub_cancel_left]
          by_cases f2 : k < A
          · rw [if_pos (by omega), if_pos f2]
          · rw [if_neg (by omega), if_neg f2, if_pos f1]
        · rw [if_neg f1, if_neg (by omega), if_neg f1]
      have newL : LR Nc (Mc.2.2 1 6) (rk.2.1 110) := by
        unfold LR
        rw [txE, y8, nI_clamp (by omega), hG, y7, z6]
        refine ⟨rfl, Or.inr ⟨u, by rw [hlen], b1', y8, fun i hi => ?_, by rw [hlen]; exact y7, by omega, by omega, fun x hx => ?_, fun k hk => ?_⟩⟩
        · rw [y9 _ (by omega) (by omega), if_pos (by omega), Nat.add_sub_cancel_left, rne 114 (by decide)]; exact (b3 i hi).2
        · rw [v1 _ (by omega)]; exact q6.2 x hx
        · rw [v1 _ (by omega), v1 _ (by omega), v1 _ (by omega)]; exact q7 k hk
      unfold RR
      rw [hs3, hs4, hs5, hs6, hsR, v3, v2, v11 9 (by decide) (by decide), v11 1 (by decide) (by decide), F41 9 (by decide), F411, y3, y5 8 (by decide) (by decide), y5 12 (by decide) (by decide), y5 3 (by decide) (by decide), r109 8 (by decide) (by decide) (by decide) (by decide), r109 3 (by decide) (by decide) (by decide) (by decide), Q109 8, Q109 3, t3, y6 111 (by decide) (by decide), rne 111 (by decide)]
      refine ⟨⟨k1, k2, k3, k4, k5, k6, k7⟩, ⟨j2, j1, fun e => j3 e.symm, j5, j4⟩, ⟨(a1.fr (flM _ k1)).ct eT, (a2.mono hB).ct eT, newL⟩, ⟨isN_nI (a := 0) (by decide) (by decide), rfl, fun k hk => ?_⟩, rfl, ⟨d1, d2, fun hh => ?_⟩, ⟨isN_nI (a := 0) (by decide) (by decide), rfl, fun j hj => ?_⟩⟩
      · have : ((0 : Int32)).toNatClampNeg = 0 := rfl
        have hk : k < ((0 : Int32)).toNatClampNeg := hk
        omega
      · obtain ⟨w1, w2, w3⟩ := d3 hh
        exact ⟨w1.fr (flM _ kd60), w2.mono hB, HL.1 _ _ _ _ w3 (flL _ kd76 (fun e => j5 e.symm))⟩
      · have : ((0 : Int32)).toNatClampNeg = 0 := rfl
        omega
end LAW3
