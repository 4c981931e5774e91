/-! what keeps the relation; the first calls -/
section KEEP
variable {LR : Mm → Nat → (Nat → Int32) → Prop} {LK : (Nat → Int32) → Nat → Nat → Int32 → Int32} {n : Nat} {Mc Mr Nc Nr : Mm} {q L B : Nat} {m : Nat → Int32}
/-- what a call that changes nothing leaves of the class's memory -/
def KpC (Mc Nc : Mm) : Prop := ∀ i, i < 82 → i ≠ 69 → i ≠ 75 → i ≠ 81 → (i < Mc.2.2 1 4 ∨ Mc.2.2 1 4 + 3 < i) → Nc.1 i = Mc.1 i
def KpR (Mr Nr : Mm) : Prop := Nr.1 110 = Mr.1 110 ∧ Nr.1 111 = Mr.1 111 ∧ Nr.1 113 = Mr.1 113 ∧ Nr.1 114 = Mr.1 114 ∧ ∀ k, k = 3 ∨ k = 6 ∨ k = 8 ∨ k = 12 → Nr.1 109 k = Mr.1 109 k
theorem md4 {q : Nat} (h : kd q = 4) : 4 ≤ q ∧ q ≤ 60 ∧ q % 4 = 0 := (lnM h).2.2.2
theorem RR_keep (HL : LSpec LR LK) (h : RR LR n Mc Mr) (hc : KpC Mc Nc) (hs : Nc.2.2 1 = Mc.2.2 1 ∧ Nc.2.2 3 = Mc.2.2 3) (hr : KpR Mr Nr) : RR LR n Nc Nr := by
  obtain ⟨⟨k1, k2, k3, k4, k5, k6, k7⟩, ⟨j1, j2, j3, j4, j5⟩, ⟨a1, a2, a3⟩, ⟨b1, b2, b3⟩, c1, ⟨d1, d2, d3⟩, ⟨e1, e2, e3⟩⟩ := h
  obtain ⟨s1, s3⟩ := hs
  obtain ⟨r110, r111, r113, r114, r109⟩ := hr
  have m2 := md4 k2
  have km : ∀ q, kd q = 4 → q ≠ Mc.2.2 1 4 → ∀ i, q ≤ i → i < q + 4 → Nc.1 i = Mc.1 i := fun q hq hne i h1 h2 => by
    have := md4 hq
    exact hc i (by omega) (by omega) (by omega) (by omega) (by omega)
  have kl : ∀ L, kd L = 2 → ∀ i, L ≤ i → i < L + 5 → Nc.1 i = Mc.1 i := fun L hL i h1 h2 => by
    have := (lnL hL).2.2.2.2.2
    exact hc i (by omega) (by omega) (by omega) (by omega) (by omega)
  have n1 : Nc.1 1 = Mc.1 1 := hc 1 (by omega) (by omega) (by omega) (by omega) (by omega)
  have n2 : Nc.1 2 = Mc.1 2 := hc 2 (by omega) (by omega) (by omega) (by omega) (by omega)
  unfold RR
  rw [s1, s3, n1, n2, r110, r111, r113, r114, r109 8 (by simp), r109 12 (by simp), r109 3 (by simp), r109 6 (by simp)]
  refine ⟨⟨k1, k2, k3, k4, k5, k6, k7⟩, ⟨j1, j2, j3, j4, j5⟩, ⟨a1.fr (km _ k1 k3), a2, HL.1 _ _ _ _ a3 (kl _ j1)⟩, ⟨b1, b2, b3⟩, c1, ⟨d1, d2, fun h => ?_⟩, ⟨e1, e2, fun j hj => ?_⟩⟩
  · obtain ⟨x1, x2, x3⟩ := d3 h
    exact ⟨x1.fr (km _ (by decide +kernel) (by omega)), x2, HL.1 _ _ _ _ x3 (kl _ (by decide +kernel))⟩
  · obtain ⟨x1, x2, x3⟩ := e3 j hj
    have hj2 : j < 12 := by have := e1.2; omega
    exact ⟨x1.fr (km _ (k6 j hj2).1 (k6 j hj2).2.2.2), x2, x3⟩
theorem RR_succ (h : RR LR n Mc Mr) : RR LR (n + 1) Mc Mr := by
  obtain ⟨h1, h2, ⟨a1, a2, a3⟩, h4, h5, ⟨d1, d2, d3⟩, ⟨e1, e2, e3⟩⟩ := h
  refine ⟨h1, h2, ⟨a1, a2.mono (by omega), a3⟩, h4, h5, ⟨d1, d2, fun h => ?_⟩, ⟨e1, e2, fun j hj => ?_⟩⟩
  · obtain ⟨x1, x2, x3⟩ := d3 h
    exact ⟨x1, x2.mono (by omega), x3⟩
  · obtain ⟨x1, x2, x3⟩ := e3 j hj
    exact ⟨x1, x2.mono (by omega), x3⟩
theorem KpC.rf : KpC Mc Mc := fun _ _ _ _ _ _ => rfl
theorem KpR.rf : KpR Mr Mr := ⟨rfl, rfl, rfl, rfl, fun _ _ => rfl⟩
theorem KpR.t {x : Int32} : KpR Mr (sI Mr 109 0 x) := ⟨rfl, rfl, rfl, rfl, fun k hk => by rw [sI_at, if_neg (by omega)]⟩
theorem KpR.of {N : Mm} {S : List Nat} (h : FrQ S Mr N) (h0 : 110 ∉ S) (h1 : 111 ∉ S) (h3 : 113 ∉ S) (h4 : 114 ∉ S) : KpR Mr N := ⟨(h.1 _ h0).1, (h.1 _ h1).1, (h.1 _ h3).1, (h.1 _ h4).1, fun k hk => h.2 k (by omega)⟩
theorem KpR.tr {N K : Mm} (h : KpR Mr N) (h2 : KpR N K) : KpR Mr K := ⟨h2.1.trans h.1, h2.2.1.trans h.2.1, h2.2.2.1.trans h.2.2.1, h2.2.2.2.1.trans h.2.2.2.1, fun k hk => (h2.2.2.2.2 k hk).trans (h.2.2.2.2 k hk)⟩
/-- a call that changes nothing -/
theorem RR_q (HL : LSpec LR LK) (h : RR LR n Mc Mr) (hc : KpC Mc Nc) (hs : Nc.2.2 1 = Mc.2.2 1 ∧ Nc.2.2 3 = Mc.2.2 3) (hr : KpR Mr Nr) : RR LR (n + 1) Nc Nr := RR_succ (RR_keep HL h hc hs hr)
variable {x1 x2 x3 x4 x5 : Int32}
theorem s_4 (HL : LSpec LR LK) (h : RR LR n Mc Mr) : ∃ Nc Nr, so_4 x1 x2 x3 x4 x5 Mc Mr Nc Nr ∧ RR LR (n + 1) Nc Nr := by
  refine ⟨Mc, sI Mr 109 0 0, ⟨gI Mc 1 2, ⟨rfl, rfl⟩, ?_⟩, RR_q HL h KpC.rf ⟨rfl, rfl⟩ KpR.t⟩
  have h5 : Mc.1 1 2 = Mr.1 109 12 := h.2.2.2.2.1
  show (gI (sI Mr 109 0 0) 109 12, sI Mr 109 0 0) = (Mc.1 1 2, _)
  rw [h5]; rfl
theorem s_1 (HL : LSpec LR LK) (h : RR LR n Mc Mr) : ∃ Nc Nr, so_1 x1 x2 x3 x4 x5 Mc Mr Nc Nr ∧ RR LR (n + 1) Nc Nr := by
  obtain ⟨⟨b1, b1'⟩, b2, b3⟩ := h.2.2.2.1
  have b2' : gI Mc 1 1 = nI (Mr.1 109 8).toNatClampNeg := b2.trans b1
  have e8 : gI (sI Mr 109 0 0) 109 8 = nI (Mr.1 109 8).toNatClampNeg := b1
  unfold so_1 f_X9_end f_X10_end f_X10_isIn
  rw [Option.bind_some, e8, b2']
  by_cases c1 : x1 < 0
  · refine ⟨Mc, sI Mr 109 0 0, ⟨false, by rw [if_pos c1], ?_⟩, RR_q HL h KpC.rf ⟨rfl, rfl⟩ KpR.t⟩
    have : ¬ (0 : Int32) ≤ x1 := by rw [Int32.not_le]; exact c1
    simp [this]
  · obtain ⟨k, hk, rfl⟩ := nI_of c1
    by_cases c2 : nI k ≤ nI (Mr.1 109 8).toNatClampNeg
    · have c3 : (0 : Int32) ≤ nI k := by rw [← Int32.not_lt]; exact c1
      refine ⟨sI Mc 1 1 (nI k), sI (sI Mr 109 0 0) 109 8 (nI k), ⟨true, by rw [if_neg c1, if_pos c2], ?_⟩, RR_succ ?_⟩
      · simp [c2, c3]
      · rw [nI_leI hk (by omega)] at c2
        obtain ⟨r1, r2, ⟨a1, a2, a3⟩, r4, r5, ⟨d1, d2, d3⟩, ⟨e1, e2, e3⟩⟩ := h
        have f : ∀ i, i ≠ 1 → (sI Mc 1 1 (nI k)).1 i = Mc.1 i := fun i hi => sI_fn hi
        have fm : ∀ q, kd q = 4 → ∀ i, q ≤ i → i < q + 4 → (sI Mc 1 1 (nI k)).1 i = Mc.1 i := fun q hq i h1 h2 => f i (by have := md4 hq; omega)
        have fl : ∀ L, kd L = 2 → ∀ i, L ≤ i → i < L + 5 → (sI Mc 1 1 (nI k)).1 i = Mc.1 i := fun q hq i h1 h2 => f i (by have := (lnL hq).2.2.2.2.2; omega)
        have g : ∀ b, b ≠ 0 → b ≠ 8 → (sI (sI Mr 109 0 0) 109 8 (nI k)).1 109 b = Mr.1 109 b := fun b h1 h2 => by rw [sI_at, if_neg (by omega), sI_at, if_neg (by omega)]
        have g8 : (sI (sI Mr 109 0 0) 109 8 (nI k)).1 109 8 = nI k := by rw [sI_at, if_pos ⟨rfl, rfl⟩]
        refine ⟨r1, r2, ⟨a1.fr (fm _ r1.1), a2, HL.1 _ _ _ _ a3 (fl _ r2.1)⟩, ?_, ?_, ?_, ?_⟩
        · rw [g8, nI_clamp (by omega)]
          refine ⟨isN_nI (by omega) (by omega), by rw [sI_at, if_pos ⟨rfl, rfl⟩], fun j hj => ?_⟩
          rw [f 2 (by omega)]
          exact b3 j (by omega)
        · rw [g 12 (by omega) (by omega), sI_at, if_neg (by omega)]; exact r5
        · rw [g 3 (by omega) (by omega), sI_at, if_neg (by omega)]
          refine ⟨d1, d2, fun h => ?_⟩
          obtain ⟨y1, y2, y3⟩ := d3 h
          exact ⟨y1.fr (fm _ (by decide +kernel)), y2, HL.1 _ _ _ _ y3 (fl _ (by decide +kernel))⟩
        · rw [g 6 (by omega) (by omega), sI_at, if_neg (by omega)]
          refine ⟨e1, e2, fun j hj => ?_⟩
          obtain ⟨y1, y2, y3⟩ := e3 j hj
          have hj2 : j < 12 := by have := e1.2; omega
          exact ⟨y1.fr (fm _ (r1.2.2.2.2.2.1 j hj2).1), y2, y3⟩
    · refine ⟨Mc, sI Mr 109 0 0, ⟨false, by rw [if_neg c1, if_neg c2], ?_⟩, RR_q HL h KpC.rf ⟨rfl, rfl⟩ KpR.t⟩
      simp [c2]
end KEEP
