/-! visitors led past: the reference's ledPast and leads -/
def stO (m : Nat → Int32) (d : Int32) : Option Nat → Int32
  | none => d
  | some t => stp m t
section LEADR2
variable {LR : Mm → Nat → (Nat → Int32) → Prop} {LK : (Nat → Int32) → Nat → Nat → Int32 → Int32} {M Mc : Mm} {q L B : Nat} {m : Nat → Int32} {s : Int32} {nx dw : Int32 → Int32}
theorem canHaveR (hm : M.1 110 = m) {t v : Nat} (ht : t < 9) (hv : v < 10) (h : M.1 116 (10 * t + v) = lkv LK m t v) : f_X10_canHave M (nI t) (nI v) = some (rgs m t (lkv LK m t v)) := by
  unfold f_X10_canHave
  simp (disch := omega) only [gI, gR, sA_nI, gA_nI, at_nI, put_nI, ibs_nI, nI_add, nI_mulI, nI_subI, nI_neg1, nI_leI, nI_ltI, nI_eq, nI_ne_m1, nI_m1_ne, nI_nlt0, Option.bind_some, bnd_some, iteP, iteN, reduceIte, if_true, if_false, eq_self, Bool.false_eq_true, l_0, l_1, l_2, l_3, l_4, l_5, l_6, l_7, l_8, l_9, l_10, l_11, l_12, l_13, l_14, l_15, l_16, l_17, l_18, l_19, l_20, l_24, l_30, l_31, l_40, l_45, l_50, l_57, l_58, l_59, l_60, l_61, l_62, l_63, l_64, l_90, l_99, l_100, l_107, l_108, l_109, l_110, l_111, l_299, l_300, l_400, l_407, l_807, h, ringsR, hm]
theorem ledPastR (hI : Inv m B) (hm : M.1 110 = m) {v : Nat} (hv : v < vN m) (cn : Nat → Nat) (h119 : ∀ t, t < tN m → M.1 119 t = nI (cn t) ∧ cn t ≤ rmN m t) (h116 : ∀ t v, t < tN m → v < vN m → M.1 116 (10 * t + v) = lkv LK m t v) :
    Tr (f_X10_ledPast M (nI v)) (fun r => r.1 = oI (pkL m LK v cn) ∧ Fr [118] M r.2 ∧ (∀ k, k ≠ v → r.2.1 118 k = M.1 118 k) ∧ r.2.1 118 v = stO m (M.1 118 v) (pkL m LK v cn)) := by
  obtain ⟨e3, hT⟩ := hI.t
  obtain ⟨e4, hV⟩ := hI.v
  obtain ⟨sp, hs1, hs2, hs3⟩ := hI.sp
  unfold f_X10_ledPast
  refine Tr.bind (Q := fun r : Mm × Int32 => r.2 = oI (pkL m LK v cn) ∧ Fr [118] M r.1 ∧ (∀ k, k ≠ v → r.1.1 118 k = M.1 118 k) ∧ r.1.1 118 v = stO m (M.1 118 v) (pkL m LK v cn)) ?_ (fun N hN => Tr.some hN)
  refine lp0 (fun i (s : Mm × Option Nat) => (s.1, oI s.2, nI i)) (tN m) (fun i s => s.2 = pkS m (fun t => lkv LK m t v) (fun t => decide (0 < rmN m t - cn t) && rgs m t (lkv LK m t v)) i ∧ Fr [118] M s.1 ∧ (∀ k, k ≠ v → s.1.1 118 k = M.1 118 k) ∧ s.1.1 118 v = stO m (M.1 118 v) s.2) (by omega) (M, none) rfl ⟨rfl, Fr.rf, fun _ _ => rfl, rfl⟩ (fun t s ht hP => ?_) (fun s hP => ?_)
  · obtain ⟨N, b⟩ := s
    obtain ⟨hb, hF, h1, h2⟩ := hP
    have hb : b = pkS m (fun t => lkv LK m t v) (fun t => decide (0 < rmN m t - cn t) && rgs m t (lkv LK m t v)) t := hb
    have hF : Fr [118] M N := hF
    have h1 : ∀ k, k ≠ v → N.1 118 k = M.1 118 k := h1
    have h2 : N.1 118 v = stO m (M.1 118 v) b := h2
    have hN : N.1 110 = m := by rw [(hF 110 (by simp)).1]; exact hm
    obtain ⟨c1, c2⟩ := h119 t ht
    have c1 : N.1 119 t = nI (cn t) := by rw [(hF 119 (by simp)).1]; exact c1
    obtain ⟨r1, r2, r3⟩ := hI.rm ht
    have c16 : ∀ u, u < tN m → N.1 116 (10 * u + v) = lkv LK m u v := fun u hu => by rw [(hF 116 (by simp)).1]; exact h116 u v hu hv
    have cH : f_X10_canHave N (nI t) (nI v) = some (rgs m t (lkv LK m t v)) := canHaveR hN (by omega) (by omega) (c16 t ht)
    have hst : m (12 + 5 * t + 0) / m 5 = stp m t := rfl
    have hs0 : (m 5 = nI 0) = False := by rw [hs1, nI_eq (by omega) (by omega)]; exact eq_false (by omega)
    have acc1 : Tr (f_X10_ledPast_J4_111 N (nI v) (nI t) (stp m t)) (fun x => ∃ s' : Mm × Option Nat, x = .inl (s'.1, oI s'.2, nI (t + 1)) ∧ s'.2 = some t ∧ Fr [118] M s'.1 ∧ (∀ k, k ≠ v → s'.1.1 118 k = M.1 118 k) ∧ s'.1.1 118 v = stO m (M.1 118 v) s'.2) := by
      unfold f_X10_ledPast_J4_111
      simp (disch := omega) only [gI, gR, sA_nI, gA_nI, at_nI, put_nI, ibs_nI, nI_add, nI_mulI, nI_subI, nI_neg1, nI_leI, nI_ltI, nI_eq, nI_ne_m1, nI_m1_ne, nI_nlt0, Option.bind_some, bnd_some, iteP, iteN, reduceIte, if_true, if_false, eq_self, Bool.false_eq_true, l_0, l_1, l_2, l_3, l_4, l_5, l_6, l_7, l_8, l_9, l_10, l_11, l_12, l_13, l_14, l_15, l_16, l_17, l_18, l_19, l_20, l_24, l_30, l_31, l_40, l_45, l_50, l_57, l_58, l_59, l_60, l_61, l_62, l_63, l_64, l_90, l_99, l_100, l_107, l_108, l_109, l_110, l_111, l_299, l_300, l_400, l_407, l_807]
      refine Tr.some ⟨(sI N 118 v (stp m t), some t), rfl, rfl, hF.tr (Fr.sI (by simp)), fun k hk => ?_, ?_⟩
      · show (sI N 118 v (stp m t)).1 118 k = _
        rw [sI_at, if_neg (by omega)]; exact h1 k hk
      · show (sI N 118 v (stp m t)).1 118 v = _
        rw [sI_at, if_pos ⟨rfl, rfl⟩]; rfl
    have nxt : ∀ x, (∃ s' : Mm × Option Nat, x = Sum.inl (s'.1, oI s'.2, nI (t + 1)) ∧ s'.2 = some t ∧ Fr [118] M s'.1 ∧ (∀ k, k ≠ v → s'.1.1 118 k = M.1 118 k) ∧ s'.1.1 118 v = stO m (M.1 118 v) s'.2) → ((decide (0 < rmN m t - cn t) && rgs m t (lkv LK m t v)) && acc m (fun t => lkv LK m t v) t b) = true → ((∃ s' : Mm × Option Nat, x = Sum.inl (s'.1, oI s'.2, nI (t + 1)) ∧ s'.2 = pkS m (fun t => lkv LK m t v) (fun t => decide (0 < rmN m t - cn t) && rgs m t (lkv LK m t v)) (t + 1) ∧ Fr [118] M s'.1 ∧ (∀ k, k ≠ v → s'.1.1 118 k = M.1 118 k) ∧ s'.1.1 118 v = stO m (M.1 118 v) s'.2) ∨ ∃ r : Mm × Int32, x = Sum.inr r ∧ (r.2 = oI (pkL m LK v cn) ∧ Fr [118] M r.1 ∧ (∀ k, k ≠ v → r.1.1 118 k = M.1 118 k) ∧ r.1.1 118 v = stO m (M.1 118 v) (pkL m LK v cn))) := by
      intro x hx hc
      obtain ⟨s', x1, x2, x3⟩ := hx
      refine Or.inl ⟨s', x1, ?_, x3⟩
      rw [x2]
      unfold pkS iter
      unfold pkS at hb
      rw [← hb, if_pos hc]
    have stay : ((decide (0 < rmN m t - cn t) && rgs m t (lkv LK m t v)) && acc m (fun t => lkv LK m t v) t b) = false → Tr (some (Sum.inl (N, oI b, nI (t + 1)) : (Mm × Int32 × Int32) ⊕ (Mm × Int32))) (fun x => ((∃ s' : Mm × Option Nat, x = Sum.inl (s'.1, oI s'.2, nI (t + 1)) ∧ s'.2 = pkS m (fun t => lkv LK m t v) (fun t => decide (0 < rmN m t - cn t) && rgs m t (lkv LK m t v)) (t + 1) ∧ Fr [118] M s'.1 ∧ (∀ k, k ≠ v → s'.1.1 118 k = M.1 118 k) ∧ s'.1.1 118 v = stO m (M.1 118 v) s'.2) ∨ ∃ r : Mm × Int32, x = Sum.inr r ∧ (r.2 = oI (pkL m LK v cn) ∧ Fr [118] M r.1 ∧ (∀ k, k ≠ v → r.1.1 118 k = M.1 118 k) ∧ r.1.1 118 v = stO m (M.1 118 v) (pkL m LK v cn)))) := by
      intro hc
      refine Tr.some (Or.inl ⟨(N, b), rfl, ?_, hF, h1, h2⟩)
      unfold pkS iter
      unfold pkS at hb
      rw [← hb, if_neg (by rw [hc]; decide)]
    have g3 : N.1 110 3 = nI (tN m) := by rw [hN]; exact e3
    unfold f_X10_ledPast_L4
    simp (disch := omega) only [gI, gR, sA_nI, gA_nI, at_nI, put_nI, ibs_nI, nI_add, nI_mulI, nI_subI, nI_neg1, nI_leI, nI_ltI, nI_eq, nI_ne_m1, nI_m1_ne, nI_nlt0, Option.bind_some, bnd_some, iteP, iteN, reduceIte, if_true, if_false, eq_self, Bool.false_eq_true, l_0, l_1, l_2, l_3, l_4, l_5, l_6, l_7, l_8, l_9, l_10, l_11, l_12, l_13, l_14, l_15, l_16, l_17, l_18, l_19, l_20, l_24, l_30, l_31, l_40, l_45, l_50, l_57, l_58, l_59, l_60, l_61, l_62, l_63, l_64, l_90, l_99, l_100, l_107, l_108, l_109, l_110, l_111, l_299, l_300, l_400, l_407, l_807, g3, ofR, c1, hN, r1, cH, hs0, hst, not_false_iff]
    by_cases a0 : cn t = rmN m t
    · rw [if_pos a0]
      exact stay (by simp [a0])
    · rw [if_neg a0]
      have a1 : 0 < rmN m t - cn t := by omega
      by_cases hr : rgs m t (lkv LK m t v) = true
      · rw [if_pos hr]
        cases b with
        | none =>
          rw [if_pos (show oI none = -1 from rfl)]
          obtain ⟨x, x1, x2⟩ := acc1
          exact ⟨x, x1, nxt x x2 (by simp [a1, hr, acc])⟩
        | some u =>
          have hu : u < t := (pk_ok hb.symm).1
          have eo : (nI u = -nI 1) = False := by rw [nI_neg1]; exact nI_ne_m1 (by omega)
          simp (disch := omega) only [gI, gR, sA_nI, gA_nI, at_nI, put_nI, ibs_nI, nI_add, nI_mulI, nI_subI, nI_neg1, nI_leI, nI_ltI, nI_eq, nI_ne_m1, nI_m1_ne, nI_nlt0, Option.bind_some, bnd_some, iteP, iteN, reduceIte, if_true, if_false, eq_self, Bool.false_eq_true, l_0, l_1, l_2, l_3, l_4, l_5, l_6, l_7, l_8, l_9, l_10, l_11, l_12, l_13, l_14, l_15, l_16, l_17, l_18, l_19, l_20, l_24, l_30, l_31, l_40, l_45, l_50, l_57, l_58, l_59, l_60, l_61, l_62, l_63, l_64, l_90, l_99, l_100, l_107, l_108, l_109, l_110, l_111, l_299, l_300, l_400, l_407, l_807, oI, eo, h2, stO, c16]
          by_cases a2 : stp m u < stp m t
          · rw [if_pos a2]
            refine stay ?_
            have b1 : ¬ stp m t < stp m u := fun h => by
              obtain ⟨x1, y1, z1⟩ := stp_nI hI ht
              obtain ⟨x2, y2, z2⟩ := stp_nI hI (Nat.lt_trans hu ht)
              rw [y1, y2, nI_ltI (by omega) (by omega)] at h
              rw [y1, y2, nI_ltI (by omega) (by omega)] at a2
              omega
            have b2 : ¬ stp m t = stp m u := fun h => by
              obtain ⟨x1, y1, z1⟩ := stp_nI hI ht
              rw [← h, y1, nI_ltI (by omega) (by omega)] at a2
              omega
            simp [acc, b1, b2]
          · rw [if_neg a2]
            by_cases a3 : stp m t = stp m u
            · have b1 : ¬ stp m t < stp m u := by rw [a3]; rw [a3] at a2; exact a2
              rw [if_pos a3]
              by_cases a4 : lkv LK m u v < lkv LK m t v
              · rw [if_pos a4]
                obtain ⟨x, x1, x2⟩ := acc1
                refine ⟨x, x1, nxt x x2 ?_⟩
                have a5 : ¬ lkv LK m t v ≤ lkv LK m u v := by rw [Int32.not_le]; exact a4
                simp [a1, hr, acc, a3, a5]
              · rw [if_neg a4]
                refine stay ?_
                have a5 : lkv LK m t v ≤ lkv LK m u v := by rw [Int32.not_lt] at a4; exact a4
                simp [acc, b1, a5]
            · rw [if_neg a3]
              obtain ⟨x, x1, x2⟩ := acc1
              refine ⟨x, x1, nxt x x2 ?_⟩
              have b1 : stp m t < stp m u := by
                obtain ⟨x1, y1, z1⟩ := stp_nI hI ht
                obtain ⟨x2, y2, z2⟩ := stp_nI hI (Nat.lt_trans hu ht)
                rw [y1, y2, nI_eq (by omega) (by omega)] at a3
                rw [y1, y2, nI_ltI (by omega) (by omega)] at a2
                rw [y1, y2, nI_ltI (by omega) (by omega)]
                omega
              simp [a1, hr, acc, b1]
      · rw [if_neg hr]
        exact stay (by simp [hr])
  · obtain ⟨N, b⟩ := s
    obtain ⟨hb, hF, h1, h2⟩ := hP
    have hF : Fr [118] M N := hF
    have g3 : N.1 110 3 = nI (tN m) := by rw [(hF 110 (by simp)).1, hm]; exact e3
    unfold f_X10_ledPast_L4
    simp (disch := omega) only [gI, gR, sA_nI, gA_nI, at_nI, put_nI, ibs_nI, nI_add, nI_mulI, nI_subI, nI_neg1, nI_leI, nI_ltI, nI_eq, nI_ne_m1, nI_m1_ne, nI_nlt0, Option.bind_some, bnd_some, iteP, iteN, reduceIte, if_true, if_false, eq_self, Bool.false_eq_true, l_0, l_1, l_2, l_3, l_4, l_5, l_6, l_7, l_8, l_9, l_10, l_11, l_12, l_13, l_14, l_15, l_16, l_17, l_18, l_19, l_20, l_24, l_30, l_31, l_40, l_45, l_50, l_57, l_58, l_59, l_60, l_61, l_62, l_63, l_64, l_90, l_99, l_100, l_107, l_108, l_109, l_110, l_111, l_299, l_300, l_400, l_407, l_807, g3]
    have hb : b = pkL m LK v cn := hb
    subst hb
    exact Tr.some ⟨_, rfl, rfl, hF, h1, h2⟩
end LEADR2
