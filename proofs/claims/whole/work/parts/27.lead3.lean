/-! the class's lead, whole -/
section LEAD3
variable {LR : Mm → Nat → (Nat → Int32) → Prop} {LK : (Nat → Int32) → Nat → Nat → Int32 → Int32} {M : Mm} {q L B : Nat} {m : Nat → Int32} {s : Int32} {nx dw : Int32 → Int32}
theorem ldS_succ {dr : Bool} {n : Nat} : ldS nx dw m LK dr (n + 1) = ldN nx dw m LK dr n (ldS nx dw m LK dr n) := rfl
/-- what the fold keeps -/
theorem ldN_inv (dr : Bool) (n : Nat) (S : LdS) (i1 : ∀ v t, S.1 v = some t → v < n ∧ t < tN m) (i2 : ∀ t, S.2.1 t ≤ rmN m t) (i3 : S.2.2.2 ≤ n) : (∀ v t, (ldN nx dw m LK dr n S).1 v = some t → v < n + 1 ∧ t < tN m) ∧ (∀ t, (ldN nx dw m LK dr n S).2.1 t ≤ rmN m t) ∧ (ldN nx dw m LK dr n S).2.2.2 ≤ n + 1 := by
  obtain ⟨hv, cn, sd, k⟩ := S
  unfold ldN
  by_cases ha : awy nx dw m dr n sd = true
  · rw [if_pos ha]
    exact ⟨fun v t h => ⟨by have := (i1 v t h).1; omega, (i1 v t h).2⟩, i2, Nat.le_succ_of_le i3⟩
  · rw [if_neg ha]
    unfold ldP
    cases hp : pkL m LK n cn with
    | none => exact ⟨fun v t h => ⟨by have := (i1 v t h).1; omega, (i1 v t h).2⟩, i2, Nat.le_succ_of_le i3⟩
    | some u =>
      obtain ⟨p1, p2⟩ := pk_ok hp
      have p3 : 0 < rmN m u - cn u := by
        have := (Bool.and_eq_true_iff.mp p2).1
        simpa using this
      refine ⟨fun v t h => ?_, fun t => ?_, Nat.succ_le_succ i3⟩
      · by_cases e : v = n
        · simp only [e, if_true] at h
          cases h
          exact ⟨by omega, p1⟩
        · simp only [e, if_false] at h
          exact ⟨by have := (i1 v t h).1; omega, (i1 v t h).2⟩
      · by_cases e : t = u
        · simp only [e, if_true]; omega
        · simp only [e, if_false]; exact i2 t
theorem ld_inv (dr : Bool) : ∀ n, (∀ v t, (ldS nx dw m LK dr n).1 v = some t → v < n ∧ t < tN m) ∧ (∀ t, (ldS nx dw m LK dr n).2.1 t ≤ rmN m t) ∧ (ldS nx dw m LK dr n).2.2.2 ≤ n := by
  intro n
  induction n with
  | zero => exact ⟨fun v t h => (by cases h), fun t => Nat.zero_le _, Nat.le_refl _⟩
  | succ n ih =>
    rw [ldS_succ]
    exact ldN_inv dr n _ ih.1 ih.2.1 ih.2.2
set_option maxHeartbeats 4000000 in
theorem leadC (HL : LSpec LR LK) (hk : kd q = 4) (h : MR M q m) (hI : Inv m B) (hD : ∀ (N : Mm) (m2 : Nat → Int32) (v : Nat), MR N q m2 → v < 10 → f_X4_drawsAway N q (nI v) = (decide (¬ m2 (57 + 5 * v + 3) ≤ dw (nx (m2 9))), sI N q 8 (nx (m2 9)))) (dr : Bool) (h83 : ∀ t v, t < tN m → v < vN m → M.1 83 (t * 10 + v) = lkv LK m t v) (h84 : ∀ t, t < tN m → M.1 84 t = clr LK m t) :
    Tr (f_X6_lead M q (bI dr)) (fun r => r.1 = nI (ldS nx dw m LK dr (vN m)).2.2.2 ∧ MR r.2 q (u9 m (ldS nx dw m LK dr (vN m)).2.2.1) ∧ Fr (if dr then [q, 85, 86] else [85, 86]) M r.2 ∧ ∀ v, v < 10 → r.2.1 85 v = oI ((ldS nx dw m LK dr (vN m)).1 v)) := by
  obtain ⟨e3, hT⟩ := hI.t
  obtain ⟨e4, hV⟩ := hI.v
  have hq := (lnM hk).2.2.2
  have g3 : M.1 q 3 = nI (tN m) := h.2.2.1.trans e3
  unfold f_X6_lead
  refine Tr.bind (fillI (i := 85) (by decide)) (fun M1 hM1 => ?_)
  obtain ⟨F1, f1⟩ := hM1
  have f1 : ∀ k, k < 10 → M1.1 85 k = -1 := f1
  have hM1 : MR M1 q m := h.fr (fun j h1 h2 => (F1 j (by simp; omega)).1)
  refine Tr.bind (Q := fun N => Fr [85, 86] M N ∧ (∀ k, k < 10 → N.1 85 k = -1) ∧ ∀ t, t < tN m → N.1 86 t = nI (rmN m t)) ?_ (fun M2 hM2 => ?_)
  · refine lp0 (fun t (N : Mm) => (N, nI t)) (tN m) (fun t N => Fr [85, 86] M N ∧ (∀ k, k < 10 → N.1 85 k = -1) ∧ ∀ u, u < t → N.1 86 u = nI (rmN m u)) (by omega) M1 rfl ⟨F1.mono (by simp), f1, fun t ht => absurd ht (Nat.not_lt_zero t)⟩ (fun t N ht hP => ?_) (fun N hP => ?_)
    · obtain ⟨hF, hP1, hP2⟩ := hP
      have hMN : MR N q m := h.fr (fun j h1 h2 => (hF j (by simp; omega)).1)
      have g3 : N.1 q 3 = nI (tN m) := hMN.2.2.1.trans e3
      obtain ⟨r1, r2, r3⟩ := hI.rm ht
      unfold f_X6_lead_L10
      simp (disch := omega) only [a2, a83, a84, a85, a86, a88, a89, a92, a93, a96, p2, p83, p84, p85, p86, p88, p89, p92, p93, p96, a91, a94, a95, p91, p94, p95, gI, gR, sA_nI, gA_nI, at_nI, put_nI, ibs_nI, nI_add, nI_mulI, nI_subI, nI_neg1, nI_leI, nI_ltI, nI_eq, nI_ne_m1, nI_m1_ne, nI_nlt0, Option.bind_some, bnd_some, iteP, iteN, reduceIte, b1_def, or0, if_true, if_false, eq_self, Bool.false_eq_true, l_0, l_1, l_2, l_3, l_4, l_5, l_6, l_7, l_8, l_9, l_10, l_11, l_12, l_13, l_14, l_15, l_16, l_17, l_18, l_19, l_20, l_24, l_30, l_31, l_40, l_45, l_50, l_57, l_58, l_59, l_60, l_61, l_62, l_63, l_64, l_90, l_99, l_100, l_107, l_108, l_109, l_110, l_111, l_299, l_300, l_400, l_407, l_807, g3, ofT hk hMN, r1]
      refine Tr.some (Or.inl ⟨_, rfl, hF.tr (Fr.sI (by simp)), fun k hk2 => ?_, fun u hu => ?_⟩)
      · rw [sI_at, if_neg (by omega)]; exact hP1 k hk2
      · rw [sI_at]
        by_cases e : u = t
        · simp [e]
        · simp [e, hP2 u (by omega)]
    · obtain ⟨hF, hP1, hP2⟩ := hP
      have hMN : MR N q m := h.fr (fun j h1 h2 => (hF j (by simp; omega)).1)
      have g3 : N.1 q 3 = nI (tN m) := hMN.2.2.1.trans e3
      unfold f_X6_lead_L10
      simp (disch := omega) only [a2, a83, a84, a85, a86, a88, a89, a92, a93, a96, p2, p83, p84, p85, p86, p88, p89, p92, p93, p96, a91, a94, a95, p91, p94, p95, gI, gR, sA_nI, gA_nI, at_nI, put_nI, ibs_nI, nI_add, nI_mulI, nI_subI, nI_neg1, nI_leI, nI_ltI, nI_eq, nI_ne_m1, nI_m1_ne, nI_nlt0, Option.bind_some, bnd_some, iteP, iteN, reduceIte, b1_def, or0, if_true, if_false, eq_self, Bool.false_eq_true, l_0, l_1, l_2, l_3, l_4, l_5, l_6, l_7, l_8, l_9, l_10, l_11, l_12, l_13, l_14, l_15, l_16, l_17, l_18, l_19, l_20, l_24, l_30, l_31, l_40, l_45, l_50, l_57, l_58, l_59, l_60, l_61, l_62, l_63, l_64, l_90, l_99, l_100, l_107, l_108, l_109, l_110, l_111, l_299, l_300, l_400, l_407, l_807, g3]
      exact Tr.some ⟨_, rfl, hF, hP1, hP2⟩
  · obtain ⟨hF2, hb, hr⟩ := hM2
    refine Tr.bind (Q := fun r : Mm × Int32 => r.2 = nI (ldS nx dw m LK dr (vN m)).2.2.2 ∧ MR r.1 q (u9 m (ldS nx dw m LK dr (vN m)).2.2.1) ∧ Fr (if dr then [q, 85, 86] else [85, 86]) M r.1 ∧ ∀ v, v < 10 → r.1.1 85 v = oI ((ldS nx dw m LK dr (vN m)).1 v)) ?_ (fun r hr => Tr.some hr)
    refine lp0 (fun v (N : Mm) => (N, nI (ldS nx dw m LK dr v).2.2.2, nI v)) (vN m) (fun v N => MR N q (u9 m (ldS nx dw m LK dr v).2.2.1) ∧ Fr (if dr then [q, 85, 86] else [85, 86]) M N ∧ (∀ k, k < 10 → N.1 85 k = oI ((ldS nx dw m LK dr v).1 k)) ∧ ∀ t, t < tN m → N.1 86 t = nI (rmN m t - (ldS nx dw m LK dr v).2.1 t)) (by omega) M2 rfl ⟨?_, ?_, hb, hr⟩ (fun v N hv hP => ?_) (fun N hP => ?_)
    · have : (ldS nx dw m LK dr 0).2.2.1 = m 9 := rfl
      rw [this, u9_self]
      exact h.fr (fun j h1 h2 => (hF2 j (by simp; omega)).1)
    · cases dr
      · exact hF2
      · exact hF2.mono (by simp)
    · obtain ⟨hMN, hF, hP1, hP2⟩ := hP
      obtain ⟨i1, i2, i3⟩ := ld_inv (nx := nx) (dw := dw) (m := m) (LK := LK) dr v
      have g4 : N.1 q 4 = nI (vN m) := hMN.2.2.2.1.trans e4
      have hnF : ∀ j, j < q ∨ q + 3 < j → j ≠ 85 → j ≠ 86 → N.1 j = M.1 j := fun j h1 h2 h3 => (hF j (by cases dr <;> simp <;> omega)).1
      -- behind the draw: from a memory N2 with the seed s2
      have go : ∀ (N2 : Mm) (s2 : Int32), MR N2 q (u9 m s2) → Fr (if dr then [q, 85, 86] else [85, 86]) M N2 → (∀ k, k < 10 → N2.1 85 k = oI ((ldS nx dw m LK dr v).1 k)) → (∀ t, t < tN m → N2.1 86 t = nI (rmN m t - (ldS nx dw m LK dr v).2.1 t)) →
          ∀ S2 : LdS, S2 = ldP m LK v (ldS nx dw m LK dr v) s2 →
          Tr (f_X6_lead_J43_70 N2 q (bI dr) (nI (ldS nx dw m LK dr v).2.2.2) (nI v) 0) (fun x => ∃ N3, x = .inl (N3, nI S2.2.2.2, nI (v + 1)) ∧ MR N3 q (u9 m S2.2.2.1) ∧ Fr (if dr then [q, 85, 86] else [85, 86]) M N3 ∧ (∀ k, k < 10 → N3.1 85 k = oI (S2.1 k)) ∧ ∀ t, t < tN m → N3.1 86 t = nI (rmN m t - S2.2.1 t)) := by
        intro N2 s2 hM2 hF2 a1 a2 S2 hS2
        have hnF2 : ∀ j, j < q ∨ q + 3 < j → j ≠ 85 → j ≠ 86 → N2.1 j = M.1 j := fun j h1 h2 h3 => (hF2 j (by cases dr <;> simp <;> omega)).1
        have fc := firstC (LK := LK) hk hM2 hI.u9 (v := v) hv (fun t => rmN m t - (ldS nx dw m LK dr v).2.1 t) (fun t ht => ⟨a2 t ht, by have := (hI.rm ht).2.2; omega⟩) (fun t v2 ht hv2 => by rw [hnF2 83 (by omega) (by decide) (by decide), lkv_u9 HL]; exact h83 t v2 ht hv2) (fun t ht => by
          rw [hnF2 84 (by omega) (by decide) (by decide)]
          rw [h84 t ht]
          unfold clr
          simp only [rgs_u9, lkv_u9 HL]
          rfl)
        simp only [rgs_u9, lkv_u9 HL, pk_u9] at fc
        have fc2 : f_X6_firstToRing N2 q (nI v) = some (oI (pkL m LK v (ldS nx dw m LK dr v).2.1)) := fc
        unfold f_X6_lead_J43_70
        rw [if_pos rfl, fc2]
        unfold f_X6_lead_J43_88
        unfold ldP at hS2
        cases hp : pkL m LK v (ldS nx dw m LK dr v).2.1 with
        | none =>
          rw [hp] at hS2
          subst hS2
          simp (disch := omega) only [a2, a83, a84, a85, a86, a88, a89, a92, a93, a96, p2, p83, p84, p85, p86, p88, p89, p92, p93, p96, a91, a94, a95, p91, p94, p95, gI, gR, sA_nI, gA_nI, at_nI, put_nI, ibs_nI, nI_add, nI_mulI, nI_subI, nI_neg1, nI_leI, nI_ltI, nI_eq, nI_ne_m1, nI_m1_ne, nI_nlt0, Option.bind_some, bnd_some, iteP, iteN, reduceIte, b1_def, or0, if_true, if_false, eq_self, Bool.false_eq_true, l_0, l_1, l_2, l_3, l_4, l_5, l_6, l_7, l_8, l_9, l_10, l_11, l_12, l_13, l_14, l_15, l_16, l_17, l_18, l_19, l_20, l_24, l_30, l_31, l_40, l_45, l_50, l_57, l_58, l_59, l_60, l_61, l_62, l_63, l_64, l_90, l_99, l_100, l_107, l_108, l_109, l_110, l_111, l_299, l_300, l_400, l_407, l_807, oI]
          exact Tr.some ⟨_, rfl, hM2, hF2, a1, a2⟩
        | some t =>
          rw [hp] at hS2
          subst hS2
          obtain ⟨p1, p2⟩ := pk_ok hp
          have p3 : 0 < rmN m t - (ldS nx dw m LK dr v).2.1 t := by
            have := (Bool.and_eq_true_iff.mp p2).1
            simpa using this
          have e86 : (sI N2 85 v (nI t)).1 86 t = nI (rmN m t - (ldS nx dw m LK dr v).2.1 t) := by
            rw [sI_at, if_neg (by omega)]; exact a2 t p1
          simp (disch := omega) only [a2, a83, a84, a85, a86, a88, a89, a92, a93, a96, p2, p83, p84, p85, p86, p88, p89, p92, p93, p96, a91, a94, a95, p91, p94, p95, gI, gR, sA_nI, gA_nI, at_nI, put_nI, ibs_nI, nI_add, nI_mulI, nI_subI, nI_neg1, nI_leI, nI_ltI, nI_eq, nI_ne_m1, nI_m1_ne, nI_nlt0, Option.bind_some, bnd_some, iteP, iteN, reduceIte, b1_def, or0, if_true, if_false, eq_self, Bool.false_eq_true, l_0, l_1, l_2, l_3, l_4, l_5, l_6, l_7, l_8, l_9, l_10, l_11, l_12, l_13, l_14, l_15, l_16, l_17, l_18, l_19, l_20, l_24, l_30, l_31, l_40, l_45, l_50, l_57, l_58, l_59, l_60, l_61, l_62, l_63, l_64, l_90, l_99, l_100, l_107, l_108, l_109, l_110, l_111, l_299, l_300, l_400, l_407, l_807, oI, e86]
          refine Tr.some ⟨_, rfl, ?_, ?_, fun k hk2 => ?_, fun u hu => ?_⟩
          · exact hM2.fr (fun j h1 h2 => by rw [show (sI (sI N2 85 v (nI t)) 86 t (nI (rmN m t - (ldS nx dw m LK dr v).2.1 t - 1))).1 j = (sI N2 85 v (nI t)).1 j from up2_fn (by omega)]; exact up2_fn (by omega))
          · refine (hF2.tr (Fr.sI (by cases dr <;> simp))).tr (Fr.sI (by cases dr <;> simp))
          · rw [sI_at, if_neg (by omega), sI_at]
            by_cases e : k = v
            · simp [e, oI]
            · simp only [e, and_false, if_false, a1 k hk2, oI]
          · rw [sI_at]
            by_cases e : u = t
            · subst e
              simp only [and_self, if_true]
              congr 1
            · simp only [e, and_false, if_false]
              rw [sI_at, if_neg (by omega)]
              exact a2 u hu
      unfold f_X6_lead_L43
      cases hdr : dr with
      | false =>
        subst hdr
        simp (disch := omega) only [a2, a83, a84, a85, a86, a88, a89, a92, a93, a96, p2, p83, p84, p85, p86, p88, p89, p92, p93, p96, a91, a94, a95, p91, p94, p95, gI, gR, sA_nI, gA_nI, at_nI, put_nI, ibs_nI, nI_add, nI_mulI, nI_subI, nI_neg1, nI_leI, nI_ltI, nI_eq, nI_ne_m1, nI_m1_ne, nI_nlt0, Option.bind_some, bnd_some, iteP, iteN, reduceIte, b1_def, or0, if_true, if_false, eq_self, Bool.false_eq_true, l_0, l_1, l_2, l_3, l_4, l_5, l_6, l_7, l_8, l_9, l_10, l_11, l_12, l_13, l_14, l_15, l_16, l_17, l_18, l_19, l_20, l_24, l_30, l_31, l_40, l_45, l_50, l_57, l_58, l_59, l_60, l_61, l_62, l_63, l_64, l_90, l_99, l_100, l_107, l_108, l_109, l_110, l_111, l_299, l_300, l_400, l_407, l_807, g4, show bI false = nI 0 from rfl]
        unfold f_X6_lead_J43_69
        have e0 : ldS nx dw m LK false (v + 1) = ldP m LK v (ldS nx dw m LK false v) (ldS nx dw m LK false v).2.2.1 := by rw [ldS_succ]; unfold ldN; rw [if_neg (show ¬ awy nx dw m false v (ldS nx dw m LK false v).2.2.1 = true by simp [awy])]; rfl
        obtain ⟨x, x1, N3, x2, x3, x4, x5, x6⟩ := go N (ldS nx dw m LK false v).2.2.1 hMN hF hP1 hP2 (ldS nx dw m LK false (v + 1)) e0
        exact ⟨x, x1, Or.inl ⟨N3, x2, x3, x4, x5, x6⟩⟩
      | true =>
        subst hdr
        have dc := hD N _ v hMN (by omega)
        rw [show (u9 m (ldS nx dw m LK true v).2.2.1) 9 = (ldS nx dw m LK true v).2.2.1 from rfl, u9e (by omega)] at dc
        have hM3 : MR (sI N q 8 (nx (ldS nx dw m LK true v).2.2.1)) q (u9 m (nx (ldS nx dw m LK true v).2.2.1)) := by
          have := hMN.u9 (s := nx (ldS nx dw m LK true v).2.2.1)
          rw [u9_u9] at this
          exact this
        have hF3 : Fr [q, 85, 86] M (sI N q 8 (nx (ldS nx dw m LK true v).2.2.1)) := Fr.tr hF (Fr.sI (by simp))
        have b1 : ∀ k, k < 10 → (sI N q 8 (nx (ldS nx dw m LK true v).2.2.1)).1 85 k = oI ((ldS nx dw m LK true v).1 k) := fun k hk2 => by rw [sI_at, if_neg (by omega)]; exact hP1 k hk2
        have b2 : ∀ t, t < tN m → (sI N q 8 (nx (ldS nx dw m LK true v).2.2.1)).1 86 t = nI (rmN m t - (ldS nx dw m LK true v).2.1 t) := fun t ht => by rw [sI_at, if_neg (by omega)]; exact hP2 t ht
        simp (disch := omega) only [a2, a83, a84, a85, a86, a88, a89, a92, a93, a96, p2, p83, p84, p85, p86, p88, p89, p92, p93, p96, a91, a94, a95, p91, p94, p95, gI, gR, sA_nI, gA_nI, at_nI, put_nI, ibs_nI, nI_add, nI_mulI, nI_subI, nI_neg1, nI_leI, nI_ltI, nI_eq, nI_ne_m1, nI_m1_ne, nI_nlt0, Option.bind_some, bnd_some, iteP, iteN, reduceIte, b1_def, or0, if_true, if_false, eq_self, Bool.false_eq_true, l_0, l_1, l_2, l_3, l_4, l_5, l_6, l_7, l_8, l_9, l_10, l_11, l_12, l_13, l_14, l_15, l_16, l_17, l_18, l_19, l_20, l_24, l_30, l_31, l_40, l_45, l_50, l_57, l_58, l_59, l_60, l_61, l_62, l_63, l_64, l_90, l_99, l_100, l_107, l_108, l_109, l_110, l_111, l_299, l_300, l_400, l_407, l_807, g4, show bI true = nI 1 from rfl, dc]
        have e0 : ldS nx dw m LK true (v + 1) = if awy nx dw m true v (ldS nx dw m LK true v).2.2.1 = true then ((ldS nx dw m LK true v).1, (ldS nx dw m LK true v).2.1, nx (ldS nx dw m LK true v).2.2.1, (ldS nx dw m LK true v).2.2.2) else ldP m LK v (ldS nx dw m LK true v) (nx (ldS nx dw m LK true v).2.2.1) := by rw [ldS_succ]; unfold ldN; rfl
        by_cases ha : awy nx dw m true v (ldS nx dw m LK true v).2.2.1 = true
        · have ha2 : decide (¬ m (57 + 5 * v + 3) ≤ dw (nx (ldS nx dw m LK true v).2.2.1)) = true := by simpa [awy] using ha
          rw [ha2]
          rw [if_pos ha] at e0
          unfold f_X6_lead_J43_70 f_X6_lead_J43_88
          simp (disch := omega) only [a2, a83, a84, a85, a86, a88, a89, a92, a93, a96, p2, p83, p84, p85, p86, p88, p89, p92, p93, p96, a91, a94, a95, p91, p94, p95, gI, gR, sA_nI, gA_nI, at_nI, put_nI, ibs_nI, nI_add, nI_mulI, nI_subI, nI_neg1, nI_leI, nI_ltI, nI_eq, nI_ne_m1, nI_m1_ne, nI_nlt0, Option.bind_some, bnd_some, iteP, iteN, reduceIte, b1_def, or0, if_true, if_false, eq_self, Bool.false_eq_true, l_0, l_1, l_2, l_3, l_4, l_5, l_6, l_7, l_8, l_9, l_10, l_11, l_12, l_13, l_14, l_15, l_16, l_17, l_18, l_19, l_20, l_24, l_30, l_31, l_40, l_45, l_50, l_57, l_58, l_59, l_60, l_61, l_62, l_63, l_64, l_90, l_99, l_100, l_107, l_108, l_109, l_110, l_111, l_299, l_300, l_400, l_407, l_807]
          refine Tr.some (Or.inl ⟨_, by rw [e0], ?_, ?_, ?_, ?_⟩)
          · rw [e0]; exact hM3
          · exact hF3
          · rw [e0]; exact b1
          · rw [e0]; exact b2
        · have ha2 : decide (¬ m (57 + 5 * v + 3) ≤ dw (nx (ldS nx dw m LK true v).2.2.1)) = false := by
            simp [awy] at ha ⊢
            exact ha
          rw [ha2]
          rw [if_neg ha] at e0
          simp (disch := omega) only [a2, a83, a84, a85, a86, a88, a89, a92, a93, a96, p2, p83, p84, p85, p86, p88, p89, p92, p93, p96, a91, a94, a95, p91, p94, p95, gI, gR, sA_nI, gA_nI, at_nI, put_nI, ibs_nI, nI_add, nI_mulI, nI_subI, nI_neg1, nI_leI, nI_ltI, nI_eq, nI_ne_m1, nI_m1_ne, nI_nlt0, Option.bind_some, bnd_some, iteP, iteN, reduceIte, b1_def, or0, if_true, if_false, eq_self, Bool.false_eq_true, l_0, l_1, l_2, l_3, l_4, l_5, l_6, l_7, l_8, l_9, l_10, l_11, l_12, l_13, l_14, l_15, l_16, l_17, l_18, l_19, l_20, l_24, l_30, l_31, l_40, l_45, l_50, l_57, l_58, l_59, l_60, l_61, l_62, l_63, l_64, l_90, l_99, l_100, l_107, l_108, l_109, l_110, l_111, l_299, l_300, l_400, l_407, l_807]
          unfold f_X6_lead_J43_69
          obtain ⟨x, x1, N3, x2, x3, x4, x5, x6⟩ := go _ (nx (ldS nx dw m LK true v).2.2.1) hM3 hF3 b1 b2 (ldS nx dw m LK true (v + 1)) e0
          exact ⟨x, x1, Or.inl ⟨N3, x2, x3, x4, x5, x6⟩⟩
    · obtain ⟨hMN, hF, hP1, hP2⟩ := hP
      have g4 : N.1 q 4 = nI (vN m) := hMN.2.2.2.1.trans e4
      unfold f_X6_lead_L43
      simp (disch := omega) only [a2, a83, a84, a85, a86, a88, a89, a92, a93, a96, p2, p83, p84, p85, p86, p88, p89, p92, p93, p96, a91, a94, a95, p91, p94, p95, gI, gR, sA_nI, gA_nI, at_nI, put_nI, ibs_nI, nI_add, nI_mulI, nI_subI, nI_neg1, nI_leI, nI_ltI, nI_eq, nI_ne_m1, nI_m1_ne, nI_nlt0, Option.bind_some, bnd_some, iteP, iteN, reduceIte, b1_def, or0, if_true, if_false, eq_self, Bool.false_eq_true, l_0, l_1, l_2, l_3, l_4, l_5, l_6, l_7, l_8, l_9, l_10, l_11, l_12, l_13, l_14, l_15, l_16, l_17, l_18, l_19, l_20, l_24, l_30, l_31, l_40, l_45, l_50, l_57, l_58, l_59, l_60, l_61, l_62, l_63, l_64, l_90, l_99, l_100, l_107, l_108, l_109, l_110, l_111, l_299, l_300, l_400, l_407, l_807, g4]
      exact Tr.some ⟨_, rfl, rfl, hMN, hF, hP1⟩
theorem leadC2 (HL : LSpec LR LK) (hk : kd q = 4) (h : MR M q m) (hI : Inv m B) (dr : Bool) (h83 : ∀ t v, t < tN m → v < vN m → M.1 83 (t * 10 + v) = lkv LK m t v) (h84 : ∀ t, t < tN m → M.1 84 t = clr LK m t) :
    Tr (f_X6_lead M q (bI dr)) (fun r => r.1 = nI (ldS nxs drw m LK dr (vN m)).2.2.2 ∧ MR r.2 q (u9 m (ldS nxs drw m LK dr (vN m)).2.2.1) ∧ Fr (if dr then [q, 85, 86] else [85, 86]) M r.2 ∧ ∀ v, v < 10 → r.2.1 85 v = oI ((ldS nxs drw m LK dr (vN m)).1 v)) := leadC HL hk h hI (fun N m2 v h1 h2 => drawsC hk h1 h2) dr h83 h84
end LEAD3
