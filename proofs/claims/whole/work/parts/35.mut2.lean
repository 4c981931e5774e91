/-! rows that agree; image and back; the museum changed -/
section MUT2
variable {LR : Mm → Nat → (Nat → Int32) → Prop} {LK : (Nat → Int32) → Nat → Nat → Int32 → Int32} {n : Nat} {M N Mc Mr Nc Nr : Mm} {q L B a d c : Nat} {m m2 : Nat → Int32} {x x1 x2 x3 x4 x5 : Int32}
def eqM (m m2 : Nat → Int32) : Prop := ∀ k, k < 407 → m2 k = m k
theorem eqM_n (e : eqM m m2) : tN m2 = tN m ∧ vN m2 = vN m ∧ hN m2 = hN m := by
  unfold tN vN hN
  rw [e 3 (by decide), e 4 (by decide), e 7 (by decide)]
  exact ⟨rfl, rfl, rfl⟩
theorem MR.cg (h : MR M q m) (e : eqM m m2) : MR M q m2 := by
  obtain ⟨e1, e2, e3, e4, e5, e6, e7, e8, e9, e10⟩ := h
  obtain ⟨t1, t2, t3⟩ := eqM_n e
  refine ⟨fun k hk => ?_, fun k hk => ?_, ?_, ?_, ?_, ?_, ?_, ?_, ?_, fun a c ha hc => ?_⟩
  · rw [e _ (by omega)]; exact e1 k hk
  · rw [e _ (by omega)]; exact e2 k hk
  · rw [e _ (by omega)]; exact e3
  · rw [e _ (by omega)]; exact e4
  · rw [e _ (by omega)]; exact e5
  · rw [e _ (by omega)]; exact e6
  · rw [e _ (by omega)]; exact e7
  · rw [e _ (by omega)]; exact e8
  · rw [e _ (by omega)]; exact e9
  · rw [t3] at ha ⊢
    rw [e _ (by omega)]
    exact e10 a c ha hc
theorem Inv.cg (h : Inv m B) (e : eqM m m2) : Inv m2 B := by
  have hT := h.t
  have hV := h.v
  obtain ⟨e1, e2, e3, e4, e5, e6, e7, e8, e9⟩ := h
  obtain ⟨t1, t2, t3⟩ := eqM_n e
  refine ⟨?_, ?_, ?_, ?_, ?_, ?_, fun t ht => ?_, fun v hv => ?_, fun a ha => ?_⟩
  · rw [e _ (by omega)]; exact e1
  · rw [e _ (by omega)]; exact e2
  · rw [e _ (by omega)]; exact e3
  · rw [e _ (by omega)]; exact e4
  · rw [e _ (by omega)]; exact e5
  · rw [t3, e _ (by omega)]; exact e6
  · rw [t1] at ht
    rw [e _ (by omega), e _ (by omega), e _ (by omega), e _ (by omega), e _ (by omega)]; exact e7 t ht
  · rw [t2] at hv
    rw [e _ (by omega), e _ (by omega)]; exact e8 v hv
  · rw [t3] at ha
    rw [t2, e _ (by omega)]; exact e9 a ha
theorem eqM_rf : eqM m m := fun _ _ => rfl
theorem eqM_sy (h : eqM m m2) : eqM m2 m := fun k hk => (h k hk).symm
/-- what is not the museum that stands now -/
def KpN (Mc Nc : Mm) : Prop := ∀ i, i < 82 → i ≠ 69 → i ≠ 75 → i ≠ 81 → (i < Mc.2.2 1 4 ∨ Mc.2.2 1 4 + 3 < i) → (i < Mc.2.2 1 3 ∨ Mc.2.2 1 3 + 3 < i) → Nc.1 i = Mc.1 i
/-- another museum now, with all else as it was -/
theorem RR_now0 (HL : LSpec LR LK) (h : RR LR n Mc Mr) (hc : KpN Mc Nc) (hs : Nc.2.2 1 = Mc.2.2 1 ∧ Nc.2.2 3 = Mc.2.2 3) (hr : Nr.1 111 = Mr.1 111 ∧ Nr.1 113 = Mr.1 113 ∧ Nr.1 114 = Mr.1 114 ∧ ∀ k, k = 3 ∨ k = 6 ∨ k = 8 ∨ k = 12 → Nr.1 109 k = Mr.1 109 k) (h2 : MR Nc (Mc.2.2 1 3) (Nr.1 110)) (h3 : Inv (Nr.1 110) (500 * n)) (h4 : eqL (Mr.1 110) (Nr.1 110)) : RR LR n Nc Nr := by
  obtain ⟨⟨k1, k2, k3, k4, k5, k6, k7⟩, ⟨j1, j2, j3, j4, j5⟩, ⟨a1, a2, a3⟩, ⟨b1, b2, b3⟩, c1, ⟨d1, d2, d3⟩, ⟨e1, e2, e3⟩⟩ := h
  obtain ⟨s1, s3⟩ := hs
  obtain ⟨r111, r113, r114, r109⟩ := hr
  have m1 := md4 k1
  have m2 := md4 k2
  have km : ∀ q, kd q = 4 → q ≠ Mc.2.2 1 4 → q ≠ Mc.2.2 1 3 → ∀ i, q ≤ i → i < q + 4 → Nc.1 i = Mc.1 i := fun q hq hne hne2 i h1 h2 => by
    have := md4 hq
    exact hc i (by omega) (by omega) (by omega) (by omega) (by omega) (by omega)
  have kl : ∀ L, kd L = 2 → ∀ i, L ≤ i → i < L + 5 → Nc.1 i = Mc.1 i := fun L hL i h1 h2 => by
    have := (lnL hL).2.2.2.2.2
    exact hc i (by omega) (by omega) (by omega) (by omega) (by omega) (by omega)
  have n1 : Nc.1 1 = Mc.1 1 := hc 1 (by omega) (by omega) (by omega) (by omega) (by omega) (by omega)
  have n2 : Nc.1 2 = Mc.1 2 := hc 2 (by omega) (by omega) (by omega) (by omega) (by omega) (by omega)
  unfold RR
  rw [s1, s3, n1, n2, r111, r113, r114, r109 8 (by simp), r109 12 (by simp), r109 3 (by simp), r109 6 (by simp)]
  refine ⟨⟨k1, k2, k3, k4, k5, k6, k7⟩, ⟨j1, j2, j3, j4, j5⟩, ⟨h2, h3, HL.2.1 _ _ _ _ (HL.1 _ _ _ _ a3 (kl _ j1)) h4⟩, ⟨b1, b2, b3⟩, c1, ⟨d1, d2, fun h => ?_⟩, ⟨e1, e2, fun j hj => ?_⟩⟩
  · obtain ⟨x1, x2, x3⟩ := d3 h
    exact ⟨x1.fr (km _ (by decide +kernel) (by omega) (by omega)), x2, HL.1 _ _ _ _ x3 (kl _ (by decide +kernel))⟩
  · obtain ⟨x1, x2, x3, x4⟩ := e3 j hj
    have hj2 : j < 12 := by have := e1.2; omega
    exact ⟨x1.fr (km _ (k6 j hj2).1 (k6 j hj2).2.2.2 (k6 j hj2).2.2.1), x2, x3.trans h4.1.symm, x4.trans h4.2.1.symm⟩
theorem RR_now (HL : LSpec LR LK) (h : RR LR n Mc Mr) (hc : KpN Mc Nc) (hs : Nc.2.2 1 = Mc.2.2 1 ∧ Nc.2.2 3 = Mc.2.2 3) (hr : Nr.1 111 = Mr.1 111 ∧ Nr.1 113 = Mr.1 113 ∧ Nr.1 114 = Mr.1 114 ∧ ∀ k, k = 3 ∨ k = 6 ∨ k = 8 ∨ k = 12 → Nr.1 109 k = Mr.1 109 k) (h2 : MR Nc (Mc.2.2 1 3) (Nr.1 110)) (h3 : Inv (Nr.1 110) (500 * (n + 1))) (h4 : eqL (Mr.1 110) (Nr.1 110)) : RR LR (n + 1) Nc Nr := RR_now0 HL (RR_succ h) hc hs hr h2 h3 h4
theorem s_37 (HL : LSpec LR LK) (h : RR LR n Mc Mr) : ∃ Nc Nr, so_37 x1 x2 x3 x4 x5 Mc Mr Nc Nr ∧ RR LR (n + 1) Nc Nr := by
  obtain ⟨hk, hkL, hM, hI, hR⟩ := h.cur
  have e9 : gA (sI Mr 109 0 0) 110 9 = Mr.1 110 9 := rfl
  have c9 : gI Mc (Mc.2.2 1 3) 8 = Mr.1 110 9 := hM.2.2.2.2.2.2.2.1
  have ib : ibs (9 : Int32) 807 = true := by decide
  have s9 : sA (sI Mr 109 0 0) 110 9 x1 = sI (sI Mr 109 0 0) 110 9 x1 := rfl
  have e110 : (sI (sI Mr 109 0 0) 110 9 x1).1 110 = u9 (Mr.1 110) x1 := u9_110
  refine ⟨sI Mc (Mc.2.2 1 3) 8 x1, sI (sI Mr 109 0 0) 110 9 x1, ⟨Mr.1 110 9, ?_, ?_⟩, RR_now HL h (fun i h1 h2 h3 h4 h5 h6 => sI_fn (by omega)) ⟨rfl, rfl⟩ ⟨rfl, rfl, rfl, fun k hk => ?_⟩ ?_ ?_ ?_⟩
  · unfold f_X9_seed
    simp only [Option.bind_some, show gR Mc 1 3 = Mc.2.2 1 3 from rfl, if_pos hk]
    rw [c9]
  · unfold f_X10_seed
    simp only [Option.bind_some, if_pos ib, e9, s9]
  · rw [sI_at, if_neg (by omega), sI_at, if_neg (by omega)]
  · rw [e110]; exact hM.u9
  · rw [e110]; exact (hI.mono (by omega)).u9
  · rw [e110]; exact ⟨rfl, rfl, fun k h1 h2 => u9e (by omega)⟩
theorem cpR {f : Mm → Int32 → Option ((Mm × Int32) ⊕ Mm)} {i j o N T : Nat} (hT : T < 10000) (hij : i ≠ j) (hstep : ∀ (M : Mm) k, k < T → f M (nI k) = some (.inl (sI M i (o + k) (M.1 j (N + k)), nI (k + 1)))) (hend : ∀ M : Mm, f M (nI T) = some (.inr M)) (M : Mm) : Tr (loop FU (fun a => f a.1 a.2) (M, nI 0)) (fun K => Fr [i] M K ∧ ∀ k, K.1 i k = if o ≤ k ∧ k < o + T then M.1 j (N + (k - o)) else M.1 i k) := by
  refine lp0 (fun k (K : Mm) => (K, nI k)) T (fun t K => Fr [i] M K ∧ ∀ k, K.1 i k = if o ≤ k ∧ k < o + t then M.1 j (N + (k - o)) else M.1 i k) hT M rfl ⟨Fr.rf, fun k => by rw [if_neg (by omega)]⟩ (fun t K ht hP => ?_) (fun K hP => ?_)
  · obtain ⟨hF, hK⟩ := hP
    refine ⟨_, hstep K t ht, Or.inl ⟨_, rfl, hF.tr (Fr.sI (by simp)), fun k => ?_⟩⟩
    rw [sI_at, (hF j (by simp; omega)).1]
    by_cases e : k = o + t
    · rw [if_pos ⟨rfl, e⟩, if_pos (by omega), e, show o + t - o = t by omega]
    · rw [if_neg (by omega), hK k]
      by_cases e2 : o ≤ k ∧ k < o + t
      · rw [if_pos e2, if_pos (by omega)]
      · rw [if_neg e2, if_neg (by omega)]
  · exact ⟨_, hend K, _, rfl, hP⟩
end MUT2
