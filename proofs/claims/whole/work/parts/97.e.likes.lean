/-! LIKING: the reference -/
section LAWLK
variable {tx : Nat → Int32} {e i j k r b f c a d n q w t v B L L2 : Nat} {M N K Mc Mr : Mm} {m m2 : Nat → Int32} {x y s mk op as : Int32} {P : Nat → Int32}
theorem i115 : ∀ k, k < 6 → ibs (nI k) 6 = true := by decide +kernel
theorem LR_5 (hI : Inv (Mr.1 110) B) (hL : LR Mc L (Mr.1 110)) (ht : t < tN (Mr.1 110)) (hv : v < vN (Mr.1 110)) : Tr (f_X10_likesOne Mr (nI t) (nI v) mk) (fun r => r.1 = LK (Mr.1 110) t v mk ∧ FrR Mr r.2) := by
  have t9 := hI.t.2
  have v10 := hI.v.2
  generalize hm : Mr.1 110 = m at hI hL ht hv t9 v10 ⊢
  obtain ⟨-, h2⟩ := hL
  unfold f_X10_likesOne LK
  rw [if_pos (show ibs (1 : Int32) 807 = true by decide), show gA Mr 110 1 = m 1 from by show Mr.1 110 1 = _; rw [hm]]
  have oV : ∀ (N : Mm) (c : Nat), N.1 110 = m → c < 5 → f_X10_ofOne N (nI v) (nI c) = some (m (57 + 5 * v + c)) := fun N c hN hc => by rw [ofOneR (by omega) hc, hN]
  have oT : ∀ (N : Mm) (c : Nat), N.1 110 = m → c < 5 → f_X10_of N (nI t) (nI c) = some (m (12 + 5 * t + c)) := fun N c hN hc => by rw [ofR (by omega) hc, hN]
  by_cases c1 : m 1 = -1
  · rw [if_pos c1, if_pos c1, show f_X10_ofOne Mr (nI v) 1 = _ from oV Mr 1 hm (by decide), Option.bind_some]
    exact Tr.some ⟨rfl, Fr.rf, fun _ _ => rfl⟩
  · rw [if_neg c1, if_neg c1]
    rcases h2 with h2 | ⟨u, a1, a2, a3, a4, a5, a6⟩
    · exact absurd h2 c1
    have key : ∀ (N : Mm) (k : Nat) (x : Int32), k < 6 → sA N 115 (nI k) x = sI N 115 k x := fun N k x hk => sA_nI (by omega)
    have k110 : ∀ (N : Mm) (k : Nat) (x : Int32), N.1 110 = m → (sI N 115 k x).1 110 = m := fun N k x h => by rw [sI_fn (by decide)]; exact h
    rw [show f_X10_ofOne Mr (nI v) 0 = _ from oV Mr 0 hm (by decide), Option.bind_some, if_pos (show ibs (0 : Int32) 6 = true by decide), show sA Mr 115 0 (m (57 + 5 * v + 0)) = _ from key Mr 0 _ (by decide), Option.bind_some]
    have h1 := k110 Mr 0 (m (57 + 5 * v + 0)) hm
    generalize e1 : sI Mr 115 0 (m (57 + 5 * v + 0)) = N1 at h1
    rw [show f_X10_ofOne N1 (nI v) 1 = _ from oV N1 1 h1 (by decide), Option.bind_some, if_pos (show ibs (1 : Int32) 6 = true by decide), show sA N1 115 1 (m (57 + 5 * v + 1)) = _ from key N1 1 _ (by decide), Option.bind_some]
    have h2 := k110 N1 1 (m (57 + 5 * v + 1)) h1
    generalize e2 : sI N1 115 1 (m (57 + 5 * v + 1)) = N2 at h2
    rw [show f_X10_ofOne N2 (nI v) 2 = _ from oV N2 2 h2 (by decide), Option.bind_some, if_pos (show ibs (2 : Int32) 6 = true by decide), show sA N2 115 2 (m (57 + 5 * v + 2)) = _ from key N2 2 _ (by decide), Option.bind_some]
    have h3 := k110 N2 2 (m (57 + 5 * v + 2)) h2
    generalize e3 : sI N2 115 2 (m (57 + 5 * v + 2)) = N3 at h3
    rw [show f_X10_of N3 (nI t) 0 = _ from oT N3 0 h3 (by decide), Option.bind_some, if_pos (show ibs (3 : Int32) 6 = true by decide), show sA N3 115 3 (m (12 + 5 * t + 0)) = _ from key N3 3 _ (by decide), Option.bind_some]
    have h4 := k110 N3 3 (m (12 + 5 * t + 0)) h3
    generalize e4 : sI N3 115 3 (m (12 + 5 * t + 0)) = N4 at h4
    rw [show f_X10_of N4 (nI t) 4 = _ from oT N4 4 h4 (by decide), Option.bind_some, if_pos (show ibs (4 : Int32) 6 = true by decide), show sA N4 115 4 (m (12 + 5 * t + 4)) = _ from key N4 4 _ (by decide), Option.bind_some, if_pos (show ibs (6 : Int32) 807 = true by decide), if_pos (show ibs (5 : Int32) 6 = true by decide)]
    have h5 := k110 N4 4 (m (12 + 5 * t + 4)) h4
    generalize e5 : sI N4 115 4 (m (12 + 5 * t + 4)) = N5 at h5
    rw [show gA N5 110 6 = m 6 from by show N5.1 110 6 = _; rw [h5], show sA N5 115 5 (m 6) = _ from key N5 5 _ (by decide), Option.bind_some, Option.bind_some, Option.bind_some, Option.bind_some, Option.bind_some, Option.bind_some, if_pos (show ibs (2 : Int32) 807 = true by decide), Option.bind_some, Option.bind_some, Option.bind_some]
    have h6 := k110 N5 5 (m 6) h5
    generalize e6 : sI N5 115 5 (m 6) = N6 at h6
    have fr6 : Fr [115] Mr N6 := by
      rw [← e6, ← e5, ← e4, ← e3, ← e2, ← e1]
      exact ((((((Fr.sI (by simp)).tr (Fr.sI (by simp))).tr (Fr.sI (by simp))).tr (Fr.sI (by simp))).tr (Fr.sI (by simp))).tr (Fr.sI (by simp)))
    have p6 : ∀ k, k < 6 → N6.1 115 k = PK m t v k := fun k hk => by
      rw [← e6, ← e5, ← e4, ← e3, ← e2, ← e1]
      unfold PK
      simp only [sI_at, true_and]
      by_cases d0 : k = 0
      · subst d0; rfl
      · by_cases d1 : k = 1
        · subst d1; rfl
        · by_cases d2 : k = 2
          · subst d2; rfl
          · by_cases d3 : k = 3
            · subst d3; rfl
            · by_cases d4 : k = 4
              · subst d4; rfl
              · have d5 : k = 5 := by omega
                subst d5; rfl
    have n109 : ∀ c, N6.1 109 c = Mr.1 109 c := fun c => congrFun (fr6 109 (by simp)).1 c
    have g2 : gA (sI (sI (sI (sI (sI N6 109 15 (nI t)) 109 16 mk) 109 17 0) 109 12 (-1)) 109 9 407) 110 2 = nI (m 2).toNatClampNeg := by
      show (sI (sI (sI (sI (sI N6 109 15 (nI t)) 109 16 mk) 109 17 0) 109 12 (-1)) 109 9 407).1 110 2 = _
      rw [sI_fn (by decide), sI_fn (by decide), sI_fn (by decide), sI_fn (by decide), sI_fn (by decide), h6]; exact a3
    rw [g2]
    generalize hG : txL (txm m) (m 2).toNatClampNeg = G at a1
    generalize he : (m 2).toNatClampNeg = e at a2 a3 a4 g2 hG
    generalize hQ : sI (sI (sI (sI (sI (sI (sI (sI N6 109 15 (nI t)) 109 16 mk) 109 17 0) 109 12 (-1)) 109 9 407) 109 10 (nI e)) 109 11 0) 109 13 0 = Q
    have Q109 : ∀ c, Q.1 109 c = if c = 13 then 0 else if c = 11 then 0 else if c = 10 then nI e else if c = 9 then 407 else if c = 12 then -1 else if c = 17 then 0 else if c = 16 then mk else if c = 15 then nI t else Mr.1 109 c := fun c => by
      rw [← hQ]
      simp only [sI_at, true_and]
      rw [n109]
    have Qne : ∀ i, i ≠ 109 → Q.1 i = N6.1 i := fun i h => by
      rw [← hQ, sI_fn h, sI_fn h, sI_fn h, sI_fn h, sI_fn h, sI_fn h, sI_fn h, sI_fn h]
    have Qfr : Fr [109] N6 Q := by
      rw [← hQ]
      exact ((((((((Fr.sI (by simp)).tr (Fr.sI (by simp))).tr (Fr.sI (by simp))).tr (Fr.sI (by simp))).tr (Fr.sI (by simp))).tr (Fr.sI (by simp))).tr (Fr.sI (by simp))).tr (Fr.sI (by simp)))
    have txe : ∀ i, i < e → txm m i = m (407 + i) := fun i hi => by unfold txm; rw [if_pos (by omega)]
    have hx : TxR Q (txm m) e := ⟨a2, by rw [Q109]; rfl, Or.inr ⟨by rw [Q109]; rfl, fun i hi => by rw [Qne 110 (by decide), h6, txe i hi]⟩, fun i hi => by rw [txe i hi]; exact a4 i hi⟩
    have hs : StL (PK m t v) mk (nI t) [] Q := ⟨by rw [Q109]; rfl, by rw [Q109]; rfl, ⟨fun k hk => by rw [Qne 115 (by decide)]; exact p6 k hk, by rw [Q109]; rfl⟩, by rw [Q109]; rfl⟩
    refine Tr.bind (readLR hx (by rw [Q109]; rfl) ⟨0, by rw [Q109]; rfl, Nat.zero_le _, rfl⟩ hs) (fun z hz => ?_)
    rw [hG] at hz
    obtain ⟨z1, K⟩ := z
    obtain ⟨w1, w2⟩ := hz
    rw [a1] at w2
    obtain ⟨w2, w3, w4⟩ : K.1 109 12 = -1 ∧ StL (PK m t v) mk (nI t) u K ∧ z1 = nI u.length := w2
    have w1 : WL Q K := w1
    rw [Option.bind_some, a1]
    refine Tr.some ⟨?_, ?_, fun k hk => ?_⟩
    · show gr0 ((sI K 109 12 _).1 109 17) = gr0 (wgU (PK m t v) mk (nI t) u)
      rw [sI_at, if_neg (by omega), w3.1]
    · exact (((fr6.mono (by simp)).tr (Qfr.mono (by simp))).tr (w1.1.mono (by simp))).tr (Fr.sI (by simp))
    · show (sI K 109 12 (gI _ 109 12)).1 109 k = _
      by_cases c12 : k = 12
      · rw [c12, sI_at, if_pos ⟨rfl, rfl⟩]
        show (sI (sI (sI N6 109 15 (nI t)) 109 16 mk) 109 17 0).1 109 12 = _
        rw [sI_at, if_neg (by omega), sI_at, if_neg (by omega), sI_at, if_neg (by omega)]
        exact n109 12
      · rw [sI_at, if_neg (by omega), w1.2 k (by omega) (by omega) (by omega) (by omega), Q109]
        rw [if_neg (by omega), if_neg (by omega), if_neg (by omega), if_neg (by omega), if_neg (by omega), if_neg (by omega), if_neg (by omega), if_neg (by omega)]
end LAWLK
