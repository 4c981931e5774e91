/-! tried out: the draft, and what is put aside; trial, span -/
section ASIDE
variable {LR : Mm → Nat → (Nat → Int32) → Prop} {LK : (Nat → Int32) → Nat → Nat → Int32 → Int32} {n : Nat} {M N K Mc Mr Nc Nr : Mm} {q L B v t : Nat} {m m0 : Nat → Int32} {x x1 x2 x3 x4 x5 : Int32} {dr : Bool}
theorem asideR : Tr (f_X10_putsAside M) (fun N => Fr [112] M N ∧ ∀ k, k < 407 → N.1 112 k = M.1 110 k) := by
  obtain ⟨K, t1, t2, t3⟩ := cpR2 (f := f_X10_putsAside_L2) (i := 112) (j := 110) (o := 0) (N := 0) (T := 407) (by decide) (by decide) M (fun K k hF hk => by
    unfold f_X10_putsAside_L2
    rw [l407, if_neg (by rw [nI_leI (by omega) (by omega)]; omega), if_pos (ib807 (by omega)), if_pos (ibs_nI (by omega) (by decide)), sA_nI (by omega), gA_nI (by omega), Option.bind_some, l_1, nI_add, Nat.zero_add]) (fun K => by
    unfold f_X10_putsAside_L2
    rw [l407, if_pos (by rw [nI_leI (by omega) (by omega)]; omega)])
  refine ⟨K, ?_, t2, fun k hk => ?_⟩
  · unfold f_X10_putsAside
    rw [show ((M' : Mm) → loop FU (fun a_2 => f_X10_putsAside_L2 a_2.1 a_2.2) (M', 0) = loop FU (fun a_2 => f_X10_putsAside_L2 a_2.1 a_2.2) (M', nI 0)) from fun _ => rfl, t1]
    rfl
  · rw [t3, if_pos (by omega), Nat.zero_add, Nat.sub_zero]
theorem backR : Tr (f_X10_comesBack M) (fun N => Fr [110] M N ∧ ∀ k, N.1 110 k = if k < 407 then M.1 112 k else M.1 110 k) := by
  obtain ⟨K, t1, t2, t3⟩ := cpR2 (f := f_X10_comesBack_L2) (i := 110) (j := 112) (o := 0) (N := 0) (T := 407) (by decide) (by decide) M (fun K k hF hk => by
    unfold f_X10_comesBack_L2
    rw [l407, if_neg (by rw [nI_leI (by omega) (by omega)]; omega), if_pos (ibs_nI (by omega) (by decide)), if_pos (ib807 (by omega)), sA_nI (by omega), gA_nI (by omega), Option.bind_some, l_1, nI_add, Nat.zero_add]) (fun K => by
    unfold f_X10_comesBack_L2
    rw [l407, if_pos (by rw [nI_leI (by omega) (by omega)]; omega)])
  refine ⟨K, ?_, t2, fun k => ?_⟩
  · unfold f_X10_comesBack
    rw [show ((M' : Mm) → loop FU (fun a_2 => f_X10_comesBack_L2 a_2.1 a_2.2) (M', 0) = loop FU (fun a_2 => f_X10_comesBack_L2 a_2.1 a_2.2) (M', nI 0)) from fun _ => rfl, t1]
    rfl
  · rw [t3, Nat.sub_zero]
    by_cases h : k < 407
    · rw [if_pos (by omega), if_pos h, Nat.zero_add]
    · rw [if_neg (by omega), if_neg h]
/-- put aside, and back again: as it was -/
def AS (m : Nat → Int32) (Mr N : Mm) : Prop := FrQ [109, 110, 112, 115, 116, 117, 118, 119] Mr N ∧ (∀ k, k < 407 → N.1 112 k = m k) ∧ ∀ k, 407 ≤ k → N.1 110 k = m k
theorem asQ : Tr (f_X10_putsAside M) (fun N => AS (M.1 110) M N ∧ N.1 110 = M.1 110 ∧ N.1 109 = M.1 109) := by
  obtain ⟨N, h1, h2, h3⟩ := asideR (M := M)
  have e : N.1 110 = M.1 110 := (h2 110 (by simp)).1
  exact ⟨N, h1, ⟨FrQ.of (h2.mono (by simp) : Fr [110, 112, 115, 116, 117, 118, 119] M N) (by simp) |>.mono (by simp), h3, fun k hk => by rw [e]⟩, e, (h2 109 (by simp)).1⟩
theorem AS.gone (hI : Inv m B) {i : Nat} (hB : B + 10 * i < 2 ^ 31) (h : AS m M N) (hD : DR LK dr m N i K) : AS m M K := by
  obtain ⟨a1, a2, a3⟩ := h
  obtain ⟨d1, d2⟩ := hD
  refine ⟨a1.tr (d2.mono (by simp)), fun k hk => by rw [(d2.1 112 (by simp)).1]; exact a2 k hk, fun k hk => ?_⟩
  rw [d1]
  exact dyN_hi hI hk i hB
theorem AS.back (h : AS m M N) : Tr (f_X10_comesBack N) (fun K => AS m M K ∧ K.1 110 = m ∧ K.1 109 = N.1 109) := by
  obtain ⟨a1, a2, a3⟩ := h
  obtain ⟨K, h1, h2, h3⟩ := backR (M := N)
  have e : K.1 110 = m := by
    funext k
    rw [h3]
    by_cases hk : k < 407
    · rw [if_pos hk]; exact a2 k hk
    · rw [if_neg hk]; exact a3 k (by omega)
  refine ⟨K, h1, ⟨a1.tr (FrQ.of (h2.mono (by simp) : Fr [110, 112, 115, 116, 117, 118, 119] N K) (by simp) |>.mono (by simp)), fun k hk => by rw [(h2 112 (by simp)).1]; exact a2 k hk, fun k hk => by rw [e]⟩, e, (h2 109 (by simp)).1⟩
theorem AS.kp (h : AS (Mr.1 110) Mr N) (e : N.1 110 = Mr.1 110) : KpR Mr N := KpR.of2 h.1 e (by simp) (by simp) (by simp)
/-- the draft is a copy -/
theorem drC (HL : LSpec LR LK) (h : RR LR n Mc Mr) : kd (Mc.2.2 1 4) = 4 ∧ Mc.2.2 1 3 ≠ Mc.2.2 1 4 ∧ Tr (f_X4_copyFrom Mc (Mc.2.2 1 4) (Mc.2.2 1 3)) (fun N => MR N (Mc.2.2 1 4) (Mr.1 110) ∧ Fr [Mc.2.2 1 4, Mc.2.2 1 4 + 1, Mc.2.2 1 4 + 2, Mc.2.2 1 4 + 3] Mc N ∧ LR N (Mc.2.2 1 5) (Mr.1 110)) := by
  obtain ⟨⟨k1, k2, k3, k4, k5, k6, k7⟩, ⟨j1, j2, j3, j4, j5⟩, ⟨a1, a2, a3⟩, hrest⟩ := h
  have m2 := md4 k2
  have l1 := (lnL j1).2.2.2.2.2
  obtain ⟨N, p1, p2, p3⟩ := copyC k2 k1 (fun e => k3 e.symm) a1
  exact ⟨k2, k3, N, p1, p2, p3, HL.1 _ _ _ _ a3 (fun i h1 h2 => (p3 i (by simp; omega)).1)⟩
/-- a call that used the draft alone -/
theorem RR_dr (HL : LSpec LR LK) (h : RR LR n Mc Mr) (hF : Fr [Mc.2.2 1 4, Mc.2.2 1 4 + 1, Mc.2.2 1 4 + 2, Mc.2.2 1 4 + 3, Mc.2.2 1 5 + 5, 83, 84, 85, 86] Mc Nc) (hr : KpR Mr Nr) : RR LR (n + 1) Nc Nr := by
  have k2 := h.1.2.1
  have j1 := h.2.1.1
  have m2 := md4 k2
  have l1 := (lnL j1).2.2.2.2.2
  exact RR_q HL h (fun i h1 h2 h3 h4 h5 => (hF i (by simp; omega)).1) ⟨(hF 1 (by simp; omega)).2.2, (hF 3 (by simp; omega)).2.2⟩ hr
theorem DC.mono4 (h : DC LR LK dr q L m M n N) : Fr [q, q + 1, q + 2, q + 3, L + 5, 83, 84, 85, 86] M N := h.2.1
theorem ndC (x : Int32) : (∃ k, k ≤ 30 ∧ x = nI k ∧ f_X9_needDaysAhead Mc x = some (.inl Mc) ∧ f_X10_isIn Mr x 0 30 = true) ∨ (f_X9_needDaysAhead Mc x = some (.inr (1, Mc)) ∧ f_X10_isIn Mr x 0 30 = false) := by
  unfold f_X9_needDaysAhead f_X9_needDaysAhead_J10
  rcases rngI (M := Mr) 30 (by decide) x with ⟨t, t1, t2, t3, t4, t5⟩ | ⟨t1, t2⟩
  · exact Or.inl ⟨t, t1, t2, by rw [if_neg t3, if_pos (show x ≤ 30 from t4)], t5⟩
  · refine Or.inr ⟨?_, t2⟩
    rcases t1 with t1 | ⟨t1, t3⟩
    · rw [if_pos t1]
    · rw [if_neg t1, if_neg (show ¬ x ≤ 30 from t3)]
theorem s_33 (HL : LSpec LR LK) (hn : n < 512) (h : RR LR n Mc Mr) : ∃ Nc Nr, so_33 x1 x2 x3 x4 x5 Mc Mr Nc Nr ∧ RR LR (n + 1) Nc Nr := by
  rcases ndC (Mc := Mc) (Mr := Mr) x1 with ⟨k, k1, rfl, n1, n2⟩ | ⟨n1, n2⟩
  · obtain ⟨hk, hkL, hM, hI, hR⟩ := h.cur
    obtain ⟨k2, k3, N, c1, c2, c3, c4⟩ := drC HL h
    have m2 := md4 k2
    have l1 := (lnL hkL).2.2.2.2.2
    have gq : gR N 1 4 = Mc.2.2 1 4 := by show N.2.2 1 4 = _; rw [(c3 1 (by simp; omega)).2.2]
    obtain ⟨p, p1, p2, p3, p4, p5⟩ := passDaysC HL k2 hkL (show N.2.2 1 5 = Mc.2.2 1 5 by rw [(c3 1 (by simp; omega)).2.2]) hI (show k ≤ 50 by omega) (by omega) c2 c4
    have e110 : (sI Mr 109 0 0).1 110 = Mr.1 110 := sI_fn (by decide)
    obtain ⟨A, a1, a2, a3, a4⟩ := asQ (M := sI Mr 109 0 0)
    rw [e110] at a2 a3
    obtain ⟨g, g1, g2, g3⟩ := goesNR HL hI (show k ≤ 50 by omega) (by omega) a3 hR
    have a5 := a2.gone hI (by omega) g3
    obtain ⟨Q, b1, b2, b3, b4⟩ := a5.back
    have b5 : KpR Mr Q := KpR.t.tr (AS.kp (Mr := sI Mr 109 0 0) (by rw [e110]; exact b2) (b3.trans e110.symm))
    have z0 : gI Q 109 0 = 0 := (b2.1.2 0 (by simp)).trans t0
    refine ⟨p.2, Q, ⟨_, nI (dcN LK true (Mr.1 110) k), ?_, ?_, Or.inl ⟨rfl, z0⟩⟩, RR_dr HL h ((c3.mono (by simp)).tr p4) b5⟩
    · unfold f_X9_trial
      rw [n1, Option.bind_some, Sum.elim_inl, Option.bind_some, show gR Mc 1 4 = Mc.2.2 1 4 from rfl, if_pos k2, Option.bind_some, show gR Mc 1 3 = Mc.2.2 1 3 from rfl, if_pos hk, c1, Option.bind_some, Option.bind_some, gq, if_pos k2, p1, Option.bind_some, p2]
    · unfold f_X10_trial f_X10_trial_J16
      rw [n2, if_pos rfl, Option.bind_some, t0, if_pos (by decide), a1, Option.bind_some, g1, Option.bind_some, b1, Option.bind_some, g2]
  · refine ⟨Mc, sI Mr 109 0 1, ⟨_, 0, ?_, ?_, Or.inr ⟨1, rfl, by rw [t0]; rfl, by rw [t0]; decide⟩⟩, RR_q HL h KpC.rf ⟨rfl, rfl⟩ KpR.t⟩
    · unfold f_X9_trial
      rw [n1, Option.bind_some, Sum.elim_inr]
    · unfold f_X10_trial f_X10_trial_J16
      rw [n2, if_neg (by decide), Option.bind_some, t0, if_neg (by decide)]
end ASIDE
