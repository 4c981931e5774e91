/-! feed -/
section FEED2
variable {LR : Mm → Nat → (Nat → Int32) → Prop} {LK : (Nat → Int32) → Nat → Nat → Int32 → Int32} {n : Nat} {M N Mc Mr Nc Nr : Mm} {A : Nat} {x x1 x2 x3 x4 x5 w : Int32}
/-- another tape, with all else as it was -/
theorem RR_tape (HL : LSpec LR LK) (h : RR LR n Mc Mr) (hf : ∀ i, i < 82 → i ≠ 1 → i ≠ 2 → Nc.1 i = Mc.1 i) (h1 : ∀ b, b ≠ 1 → Nc.1 1 b = Mc.1 1 b) (hs : Nc.2.2 1 = Mc.2.2 1 ∧ Nc.2.2 3 = Mc.2.2 3) (hr : Nr.1 110 = Mr.1 110 ∧ Nr.1 111 = Mr.1 111 ∧ Nr.1 113 = Mr.1 113 ∧ ∀ k, k = 3 ∨ k = 6 ∨ k = 12 → Nr.1 109 k = Mr.1 109 k) (ht : isN (Nr.1 109 8) 400 ∧ Nc.1 1 1 = Nr.1 109 8 ∧ ∀ k, k < (Nr.1 109 8).toNatClampNeg → Nc.1 2 k = Nr.1 114 k ∧ isN (Nr.1 114 k) 255) : RR LR (n + 1) Nc Nr := by
  have h := RR_succ h
  obtain ⟨r1, r2, ⟨a1, a2, a3⟩, r4, r5, ⟨d1, d2, d3⟩, ⟨e1, e2, e3⟩⟩ := h
  obtain ⟨s1, s3⟩ := hs
  obtain ⟨q1, q2, q3, q4⟩ := hr
  have fm : ∀ q, kd q = 4 → ∀ i, q ≤ i → i < q + 4 → Nc.1 i = Mc.1 i := fun q hq i g1 g2 => hf i (by have := md4 hq; omega) (by have := md4 hq; omega) (by have := md4 hq; omega)
  have fl : ∀ L, kd L = 2 → ∀ i, L ≤ i → i < L + 5 → Nc.1 i = Mc.1 i := fun L hq i g1 g2 => hf i (by have := (lnL hq).2.2.2.2.2; omega) (by have := (lnL hq).2.2.2.2.2; omega) (by have := (lnL hq).2.2.2.2.2; omega)
  unfold RR
  rw [s1, s3, h1 2 (by decide), h1 9 (by decide), h1 11 (by decide), q1, q2, q3, q4 12 (by simp), q4 3 (by simp), q4 6 (by simp)]
  refine ⟨r1, r2, ⟨a1.fr (fm _ r1.1), a2, HL.1 _ _ _ _ a3 (fl _ r2.1)⟩, ht, r5, ⟨d1, d2, fun hh => ?_⟩, ⟨e1, e2, fun j hj => ?_⟩⟩
  · obtain ⟨y1, y2, y3⟩ := d3 hh
    exact ⟨y1.fr (fm _ kd60), y2, HL.1 _ _ _ _ y3 (fl _ kd76)⟩
  · obtain ⟨y1, y2, y3⟩ := e3 j hj
    have hj2 : j < 12 := by have := e1.2; omega
    exact ⟨y1.fr (fm _ (r1.2.2.2.2.2.1 j hj2).1), y2, y3⟩
def wrd (x1 x2 x3 x4 x5 : Int32) (j : Nat) : Int32 := if j = 0 then x1 else if j = 1 then x2 else if j = 2 then x3 else if j = 3 then x4 else x5
theorem sh_all : ∀ i, i < 20 → (24 : Int32) - 8 * (nI i - nI i / 4 * 4) = nI (24 - 8 * (i % 4)) := by decide +kernel
theorem feedR (hA : M.1 109 8 = nI A) (h2 : A + 20 ≤ 400) : Tr (loop FU (fun a_4 => f_X10_feed_L23 a_4.1 x1 x2 x3 x4 x5 a_4.2) (M, 0)) (fun N => Fr [109, 114] M N ∧ (∀ b, b ≠ 8 → N.1 109 b = M.1 109 b) ∧ N.1 109 8 = nI (A + 20) ∧ ∀ k, N.1 114 k = if A ≤ k ∧ k < A + 20 then by4 (wrd x1 x2 x3 x4 x5 ((k - A) / 4)) ((k - A) % 4) else M.1 114 k) := by
  refine lp0 (fun i (N : Mm) => (N, nI i)) 20 (fun i N => Fr [109, 114] M N ∧ (∀ b, b ≠ 8 → N.1 109 b = M.1 109 b) ∧ N.1 109 8 = nI (A + i) ∧ ∀ k, N.1 114 k = if A ≤ k ∧ k < A + i then by4 (wrd x1 x2 x3 x4 x5 ((k - A) / 4)) ((k - A) % 4) else M.1 114 k) (by decide) M rfl ⟨Fr.rf, fun _ _ => rfl, hA, fun k => by rw [if_neg (by omega)]⟩ (fun i N hi hP => ?_) (fun N hP => ?_)
  · obtain ⟨hF, h1, h3, h4⟩ := hP
    have j76 : ∀ y, f_X10_feed_J23_76 N x1 x2 x3 x4 x5 (nI i) y = some (.inl (sI (sI N 114 (A + i) (by4 y (i % 4))) 109 8 (nI (A + (i + 1))), nI (i + 1))) := fun y => by
      unfold f_X10_feed_J23_76
      rw [show gI N 109 8 = nI (A + i) from h3, if_pos (ibs_nI (by omega) (by decide)), sh_all i hi, sA_nI (by omega), Option.bind_some]
      have g : ∀ z, gI (sI N 114 (A + i) z) 109 8 = nI (A + i) := fun z => by
        show (sI N 114 (A + i) z).1 109 8 = _
        rw [sI_fn (show 109 ≠ 114 by decide)]; exact h3
      rw [g, Option.bind_some, l_1, nI_add, nI_add]
      rfl
    have e : f_X10_feed_L23 N x1 x2 x3 x4 x5 (nI i) = some (.inl (sI (sI N 114 (A + i) (by4 (wrd x1 x2 x3 x4 x5 (i / 4)) (i % 4))) 109 8 (nI (A + (i + 1))), nI (i + 1))) := by
      unfold f_X10_feed_L23
      rw [if_neg (show ¬ (20 : Int32) ≤ nI i by rw [l_20, nI_leI (by omega) (by omega)]; omega), j76, j76, j76, j76, j76]
      have lei : ∀ b : Nat, b < 100 → ((nI b ≤ nI i) ↔ b ≤ i) := fun b hb => by rw [nI_leI (by omega) (by omega)]
      unfold wrd
      by_cases c1 : (4 : Int32) ≤ nI i
      · rw [if_pos c1]
        have c1' : 4 ≤ i := (lei 4 (by decide)).mp c1
        by_cases c2 : (8 : Int32) ≤ nI i
        · rw [if_pos c2]
          have c2' : 8 ≤ i := (lei 8 (by decide)).mp c2
          by_cases c3 : (12 : Int32) ≤ nI i
          · rw [if_pos c3]
            have c3' : 12 ≤ i := (lei 12 (by decide)).mp c3
            by_cases c4 : (16 : Int32) ≤ nI i
            · have c4' : 16 ≤ i := (lei 16 (by decide)).mp c4
              rw [if_pos c4, if_neg (by omega), if_neg (by omega), if_neg (by omega), if_neg (by omega)]
            · have c4' : ¬ 16 ≤ i := fun hh => c4 ((lei 16 (by decide)).mpr hh)
              rw [if_neg c4, if_neg (by omega), if_neg (by omega), if_neg (by omega), if_pos (by omega)]
          · have c3' : ¬ 12 ≤ i := fun hh => c3 ((lei 12 (by decide)).mpr hh)
            rw [if_neg c3, if_neg (by omega), if_neg (by omega), if_pos (by omega)]
        · have c2' : ¬ 8 ≤ i := fun hh => c2 ((lei 8 (by decide)).mpr hh)
          rw [if_neg c2, if_neg (by omega), if_pos (by omega)]
      · have c1' : ¬ 4 ≤ i := fun hh => c1 ((lei 4 (by decide)).mpr hh)
        rw [if_neg c1, if_pos (by omega)]
    refine Tr.cg e (Tr.some (Or.inl ⟨_, rfl, (hF.tr (Fr.sI (by simp))).tr (Fr.sI (by simp)), fun b hb => ?_, ?_, fun k => ?_⟩))
    · rw [sI_at, if_neg (by omega), sI_fn (show 109 ≠ 114 by decide)]; exact h1 b hb
    · rw [sI_at, if_pos ⟨rfl, rfl⟩]
    · rw [sI_fn (show 114 ≠ 109 by decide), sI_at, h4]
      by_cases e1 : k = A + i
      · rw [if_pos ⟨rfl, e1⟩, if_pos (by omega), e1, show A + i - A = i by omega]
      · rw [if_neg (by omega)]
        by_cases e2 : A ≤ k ∧ k < A + i
        · rw [if_pos e2, if_pos (by omega)]
        · rw [if_neg e2, if_neg (by omega)]
  · have e : f_X10_feed_L23 N x1 x2 x3 x4 x5 (nI 20) = some (.inr N) := by
      unfold f_X10_feed_L23
      rw [if_pos (by decide)]
    exact ⟨_, e, _, rfl, hP⟩
theorem s_0 (HL : LSpec LR LK) (h : RR LR n Mc Mr) : ∃ Nc Nr, so_0 x1 x2 x3 x4 x5 Mc Mr Nc Nr ∧ RR LR (n + 1) Nc Nr := by
  obtain ⟨⟨b1, b1'⟩, b2, b3⟩ := h.2.2.2.1
  generalize hA : (Mr.1 109 8).toNatClampNeg = A at b1 b1' b3
  have c1 : Mc.1 1 1 = nI A := b2.trans b1
  have r8 : (sI Mr 109 0 0).1 109 8 = nI A := b1
  have le20 : ((nI A + 20 : Int32) ≤ 400) ↔ A + 20 ≤ 400 := by
    rw [l_20, nI_add, show (400 : Int32) = nI 400 from rfl, nI_leI (by omega) (by omega)]
  by_cases hle : A + 20 ≤ 400
  · obtain ⟨N1, p1, f1, g1, t1, k1, z1⟩ := apC (w := x1) c1 (by omega)
    obtain ⟨N2, p2, f2, g2, t2, k2, z2⟩ := apC (w := x2) t1 (by omega)
    obtain ⟨N3, p3, f3, g3, t3, k3, z3⟩ := apC (w := x3) t2 (by omega)
    obtain ⟨N4, p4, f4, g4, t4, k4, z4⟩ := apC (w := x4) t3 (by omega)
    obtain ⟨N5, p5, f5, g5, t5, k5, z5⟩ := apC (w := x5) t4 (by omega)
    obtain ⟨K, q1, q2, q3, q4, q5⟩ := feedR (M := sI Mr 109 0 0) (x1 := x1) (x2 := x2) (x3 := x3) (x4 := x4) (x5 := x5) r8 hle
    have fC := (((f1.tr f2).tr f3).tr f4).tr f5
    refine ⟨N5, K, ⟨nI (A + 20), ?_, ?_⟩, RR_tape HL h (fun i _ h2 h3 => (fC i (by simp; omega)).1) (fun b hb => by rw [g5 b hb, g4 b hb, g3 b hb, g2 b hb, g1 b hb]) ⟨?_, ?_⟩ ⟨?_, ?_, ?_, fun k hk => ?_⟩ ⟨?_, ?_, fun k hk => ?_⟩⟩
    · unfold f_X9_feed
      rw [show gI Mc 1 1 = nI A from c1, if_pos (le20.mpr hle), p1, Option.bind_some, p2, Option.bind_some, p3, Option.bind_some, p4, Option.bind_some, p5, Option.bind_some, show gI N5 1 1 = nI (A + 4 + 4 + 4 + 4 + 4) from t5, show A + 4 + 4 + 4 + 4 + 4 = A + 20 by omega]
    · unfold f_X10_feed
      rw [Option.bind_some, show gI (sI Mr 109 0 0) 109 8 = nI A from r8, if_pos (le20.mpr hle), q1, Option.bind_some, show gI K 109 8 = nI (A + 20) from q4]
    · rw [z5, z4, z3, z2, z1]
    · exact (fC 3 (by simp)).2.2
    · rw [(q2 110 (by simp)).1, sI_fn (by decide)]
    · rw [(q2 111 (by simp)).1, sI_fn (by decide)]
    · rw [(q2 113 (by simp)).1, sI_fn (by decide)]
    · rw [q3 k (by omega), sI_at, if_neg (by omega)]
    · rw [q4]; exact isN_nI (by omega) (by decide)
    · rw [q4, t5, show A + 4 + 4 + 4 + 4 + 4 = A + 20 by omega]
    · rw [q4, nI_clamp (by omega)] at hk
      rw [q5 k, k5 k, k4 k, k3 k, k2 k, k1 k]
      by_cases hlt : k < A
      · obtain ⟨y1, y2⟩ := b3 k hlt
        rw [if_neg (by omega), if_neg (by omega), if_neg (by omega), if_neg (by omega), if_neg (by omega), if_neg (by omega), sI_fn (by decide)]
        exact ⟨y1, y2⟩
      · rw [if_pos (show A ≤ k ∧ k < A + 20 by omega)]
        refine ⟨?_, isN255 _⟩
        unfold wrd
        by_cases d1 : k < A + 4
        · rw [if_neg (by omega), if_neg (by omega), if_neg (by omega), if_neg (by omega), if_pos (by omega), if_pos (by omega), show (k - A) % 4 = k - A by omega]
        · by_cases d2 : k < A + 8
          · rw [if_neg (by omega), if_neg (by omega), if_neg (by omega), if_pos (by omega), if_neg (by omega), if_pos (by omega), show (k - A) % 4 = k - (A + 4) by omega]
          · by_cases d3 : k < A + 12
            · rw [if_neg (by omega), if_neg (by omega), if_pos (by omega), if_neg (by omega), if_neg (by omega), if_pos (by omega), show (k - A) % 4 = k - (A + 4 + 4) by omega]
            · by_cases d4 : k < A + 16
              · rw [if_neg (by omega), if_pos (by omega), if_neg (by omega), if_neg (by omega), if_neg (by omega), if_pos (by omega), show (k - A) % 4 = k - (A + 4 + 4 + 4) by omega]
              · rw [if_pos (by omega), if_neg (by omega), if_neg (by omega), if_neg (by omega), if_neg (by omega), show (k - A) % 4 = k - (A + 4 + 4 + 4 + 4) by omega]
  · refine ⟨Mc, sI Mr 109 0 0, ⟨-1, ?_, ?_⟩, RR_q HL h KpC.rf ⟨rfl, rfl⟩ KpR.t⟩
    · unfold f_X9_feed
      rw [show gI Mc 1 1 = nI A from c1, if_neg (fun hh => hle (le20.mp hh))]
    · unfold f_X10_feed
      rw [Option.bind_some, show gI (sI Mr 109 0 0) 109 8 = nI A from r8, if_neg (fun hh => hle (le20.mp hh))]
end FEED2
