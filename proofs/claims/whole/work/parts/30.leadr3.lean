/-! visitors led past: the reference's leads -/
section LEADR3
variable {LR : Mm → Nat → (Nat → Int32) → Prop} {LK : (Nat → Int32) → Nat → Nat → Int32 → Int32} {M Mc : Mm} {q L B : Nat} {m : Nat → Int32} {s : Int32} {nx dw : Int32 → Int32}
theorem sI_fn {M : Mm} {i k j : Nat} {v : Int32} (h : j ≠ i) : (sI M i k v).1 j = M.1 j := up2_fn h
theorem rmN_u9 (t : Nat) : rmN (u9 m s) t = rmN m t := by
  unfold rmN
  rw [u9e (by omega)]
theorem pkL_u9 (HL : LSpec LR LK) (v : Nat) (cn : Nat → Nat) : pkL (u9 m s) LK v cn = pkL m LK v cn := by
  unfold pkL
  simp only [rgs_u9, lkv_u9 HL, pk_u9, rmN_u9]
  rfl
theorem stO_u9 (d : Int32) (o : Option Nat) : stO (u9 m s) d o = stO m d o := by
  cases o
  · rfl
  · exact stp_u9 _
/-- how the reference holds what the fold has -/
def LdH (m : Nat → Int32) (N : Mm) (S : LdS) : Prop := (∀ k, k < 10 → N.1 117 k = oI (S.1 k)) ∧ (∀ k, k < 10 → N.1 118 k = stO m (-1) (S.1 k)) ∧ ∀ t, t < tN m → N.1 119 t = nI (S.2.1 t)
theorem leadsR (HL : LSpec LR LK) (hI : Inv m B) (hm : M.1 110 = m) (h116 : ∀ t v, t < tN m → v < vN m → M.1 116 (10 * t + v) = lkv LK m t v) (hD : ∀ N : Mm, f_X10_draw N 100 = some (dw (nx (N.1 110 9)), sI N 110 9 (nx (N.1 110 9)))) (dr : Bool) :
    Tr (f_X10_leads M (bI dr)) (fun N => N.1 110 = u9 m (ldS nx dw m LK dr (vN m)).2.2.1 ∧ Fr [110, 117, 118, 119] M N ∧ LdH m N (ldS nx dw m LK dr (vN m))) := by
  obtain ⟨e3, hT⟩ := hI.t
  obtain ⟨e4, hV⟩ := hI.v
  unfold f_X10_leads
  refine Tr.bind beginsR (fun M1 hM1 => ?_)
  obtain ⟨F1, b1, b2⟩ := hM1
  refine Tr.bind (Q := fun N => N.1 110 = u9 m (ldS nx dw m LK dr (vN m)).2.2.1 ∧ Fr [110, 117, 118, 119] M N ∧ LdH m N (ldS nx dw m LK dr (vN m))) ?_ (fun N hN => Tr.some hN)
  refine lp0 (fun i (N : Mm) => (N, nI i)) (vN m) (fun i N => N.1 110 = u9 m (ldS nx dw m LK dr i).2.2.1 ∧ Fr [110, 117, 118, 119] M N ∧ LdH m N (ldS nx dw m LK dr i)) (by omega) M1 rfl ⟨?_, F1.mono (by simp), fun k hk => (b2 k hk).1, fun k hk => (b2 k hk).2, fun t ht => b1 t (by omega)⟩ (fun v N hv hP => ?_) (fun N hP => ?_)
  · have : (ldS nx dw m LK dr 0).2.2.1 = m 9 := rfl
    rw [this, u9_self, (F1 110 (by simp)).1]
    exact hm
  · obtain ⟨h110, hF, h117, h118, h119⟩ := hP
    obtain ⟨i1, i2, i3⟩ := ld_inv (nx := nx) (dw := dw) (m := m) (LK := LK) dr v
    have g4 : N.1 110 4 = nI (vN m) := by rw [h110, u9e (by omega)]; exact e4
    have go : ∀ (N2 : Mm) (s2 : Int32), N2.1 110 = u9 m s2 → Fr [110, 117, 118, 119] M N2 → LdH m N2 (ldS nx dw m LK dr v) → ∀ S2 : LdS, S2 = ldP m LK v (ldS nx dw m LK dr v) s2 →
        Tr (f_X10_leads_J6_38 N2 (bI dr) (nI v)) (fun x => (∃ s', x = Sum.inl (s', nI (v + 1)) ∧ s'.1 110 = u9 m S2.2.2.1 ∧ Fr [110, 117, 118, 119] M s' ∧ LdH m s' S2) ∨ ∃ r, x = Sum.inr r ∧ (r.1 110 = u9 m (ldS nx dw m LK dr (vN m)).2.2.1 ∧ Fr [110, 117, 118, 119] M r ∧ LdH m r (ldS nx dw m LK dr (vN m)))) := by
      intro N2 s2 g110 gF gH S2 hS2
      obtain ⟨g117, g118, g119⟩ := gH
      have lp := ledPastR (LK := LK) (hI.u9 (s := s2)) g110 (v := v) hv (ldS nx dw m LK dr v).2.1 (fun t ht => ⟨g119 t ht, by rw [rmN_u9]; exact i2 t⟩) (fun t v2 h1 h2 => by rw [(gF 116 (by simp)).1, lkv_u9 HL]; exact h116 t v2 h1 h2)
      rw [pkL_u9 HL] at lp
      unfold f_X10_leads_J6_38
      refine Tr.bind lp (fun r hr => ?_)
      obtain ⟨r1, rF, r2, r3⟩ := hr
      have hv0 : (ldS nx dw m LK dr v).1 v = none := by
        cases hx : (ldS nx dw m LK dr v).1 v with
        | none => rfl
        | some t => have := (i1 v t hx).1; omega
      rw [stO_u9, g118 v (by omega), hv0, show stO m (-1) none = -1 from rfl] at r3
      have r110 : r.2.1 110 = u9 m s2 := by rw [(rF 110 (by simp)).1]; exact g110
      have r117 : r.2.1 117 = N2.1 117 := (rF 117 (by simp)).1
      have r119 : r.2.1 119 = N2.1 119 := (rF 119 (by simp)).1
      have hF4 : Fr [110, 117, 118, 119] M (sI r.2 117 v r.1) := (gF.tr (rF.mono (by simp))).tr (Fr.sI (by simp))
      have x117 : ∀ k, k < 10 → k ≠ v → (sI r.2 117 v r.1).1 117 k = oI ((ldS nx dw m LK dr v).1 k) := fun k hk hkv => by
        rw [sI_at, if_neg (by omega), r117]; exact g117 k hk
      have x117v : (sI r.2 117 v r.1).1 117 v = r.1 := by rw [sI_at, if_pos ⟨rfl, rfl⟩]
      have x118 : ∀ k, k < 10 → k ≠ v → (sI r.2 117 v r.1).1 118 k = stO m (-1) ((ldS nx dw m LK dr v).1 k) := fun k hk hkv => by
        rw [sI_at, if_neg (by omega), r2 k hkv]; exact g118 k hk
      have x118v : (sI r.2 117 v r.1).1 118 v = stO m (-1) (pkL m LK v (ldS nx dw m LK dr v).2.1) := by rw [sI_at, if_neg (by omega)]; exact r3
      have x119 : ∀ t, t < tN m → (sI r.2 117 v r.1).1 119 t = nI ((ldS nx dw m LK dr v).2.1 t) := fun t ht => by
        rw [sI_at, if_neg (by omega), r119]; exact g119 t ht
      have x110 : (sI r.2 117 v r.1).1 110 = u9 m s2 := (sI_fn (show 110 ≠ 117 by decide)).trans r110
      have ib : ibs (nI v) 10 = true := ibs_nI (by omega) (by omega)
      have gs : ∀ (K : Mm) x, sA K 117 (nI v) x = sI K 117 v x := fun K x => sA_nI (by omega)
      have gg : ∀ (K : Mm), gA K 117 (nI v) = K.1 117 v := fun K => gA_nI (by omega)
      simp only [ib, if_true, gs, gg, Option.bind_some, x117v]
      rw [r1]
      rw [r1] at hF4 x117 x117v x118 x118v x119 x110
      unfold ldP at hS2
      cases hp : pkL m LK v (ldS nx dw m LK dr v).2.1 with
      | none =>
        rw [hp] at hS2 hF4 x117 x117v x118 x118v x119 x110
        subst hS2
        rw [if_pos (show oI none = -1 from rfl)]
        simp (disch := omega) only [gI, gR, sA_nI, gA_nI, at_nI, put_nI, ibs_nI, nI_add, nI_mulI, nI_subI, nI_neg1, nI_leI, nI_ltI, nI_eq, nI_ne_m1, nI_m1_ne, nI_nlt0, Option.bind_some, bnd_some, iteP, iteN, reduceIte, if_true, if_false, eq_self, Bool.false_eq_true, l_0, l_1, l_2, l_3, l_4, l_5, l_6, l_7, l_8, l_9, l_10, l_11, l_12, l_13, l_14, l_15, l_16, l_17, l_18, l_19, l_20, l_24, l_30, l_31, l_40, l_45, l_50, l_57, l_58, l_59, l_60, l_61, l_62, l_63, l_64, l_90, l_99, l_100, l_107, l_108, l_109, l_110, l_111, l_299, l_300, l_400, l_407, l_807]
        refine Tr.some (Or.inl ⟨_, rfl, x110, hF4, fun k hk => ?_, fun k hk => ?_, x119⟩)
        · by_cases e : k = v
          · subst e; rw [x117v, hv0]
          · exact x117 k hk e
        · by_cases e : k = v
          · subst e; rw [x118v, hv0]
          · exact x118 k hk e
      | some t =>
        rw [hp] at hS2 hF4 x117 x117v x118 x118v x119 x110
        subst hS2
        obtain ⟨p1, p2⟩ := pk_ok hp
        rw [if_neg (show ¬ oI (some t) = -1 from by rw [oI, nI_ne_m1 (by omega)]; exact not_false)]
        have ib2 : ibs (oI (some t)) 9 = true := ibs_nI (by omega) (by omega)
        have g2 : gA (sI r.2 117 v (oI (some t))) 119 (oI (some t)) = nI ((ldS nx dw m LK dr v).2.1 t) := (gA_nI (by omega)).trans (x119 t p1)
        have s2' : ∀ (K : Mm) x, sA K 119 (oI (some t)) x = sI K 119 t x := fun K x => sA_nI (by omega)
        simp only [ib2, if_true, g2, s2', Option.bind_some]
        simp (disch := omega) only [gI, gR, sA_nI, gA_nI, at_nI, put_nI, ibs_nI, nI_add, nI_mulI, nI_subI, nI_neg1, nI_leI, nI_ltI, nI_eq, nI_ne_m1, nI_m1_ne, nI_nlt0, Option.bind_some, bnd_some, iteP, iteN, reduceIte, if_true, if_false, eq_self, Bool.false_eq_true, l_0, l_1, l_2, l_3, l_4, l_5, l_6, l_7, l_8, l_9, l_10, l_11, l_12, l_13, l_14, l_15, l_16, l_17, l_18, l_19, l_20, l_24, l_30, l_31, l_40, l_45, l_50, l_57, l_58, l_59, l_60, l_61, l_62, l_63, l_64, l_90, l_99, l_100, l_107, l_108, l_109, l_110, l_111, l_299, l_300, l_400, l_407, l_807]
        refine Tr.some (Or.inl ⟨_, rfl, ?_, hF4.tr (Fr.sI (by simp)), fun k hk => ?_, fun k hk => ?_, fun u hu => ?_⟩)
        · exact (sI_fn (show 110 ≠ 119 by decide)).trans x110
        · rw [sI_at, if_neg (by omega)]
          by_cases e : k = v
          · subst e; rw [x117v]; simp
          · rw [x117 k hk e]; simp [e]
        · rw [sI_at, if_neg (by omega)]
          by_cases e : k = v
          · subst e; rw [x118v]; simp
          · rw [x118 k hk e]; simp [e]
        · rw [sI_at]
          by_cases e : u = t
          · subst e; simp
          · simp only [e, and_false, if_false]
            exact x119 u hu
    unfold f_X10_leads_L6
    cases hdr : dr with
    | false =>
      subst hdr
      simp (disch := omega) only [gI, gR, sA_nI, gA_nI, at_nI, put_nI, ibs_nI, nI_add, nI_mulI, nI_subI, nI_neg1, nI_leI, nI_ltI, nI_eq, nI_ne_m1, nI_m1_ne, nI_nlt0, Option.bind_some, bnd_some, iteP, iteN, reduceIte, if_true, if_false, eq_self, Bool.false_eq_true, l_0, l_1, l_2, l_3, l_4, l_5, l_6, l_7, l_8, l_9, l_10, l_11, l_12, l_13, l_14, l_15, l_16, l_17, l_18, l_19, l_20, l_24, l_30, l_31, l_40, l_45, l_50, l_57, l_58, l_59, l_60, l_61, l_62, l_63, l_64, l_90, l_99, l_100, l_107, l_108, l_109, l_110, l_111, l_299, l_300, l_400, l_407, l_807, g4, show bI false = nI 0 from rfl]
      have e0 : ldS nx dw m LK false (v + 1) = ldP m LK v (ldS nx dw m LK false v) (ldS nx dw m LK false v).2.2.1 := by rw [ldS_succ]; unfold ldN; rw [if_neg (show ¬ awy nx dw m false v (ldS nx dw m LK false v).2.2.1 = true by simp [awy])]; rfl
      exact go N _ h110 hF ⟨h117, h118, h119⟩ _ e0
    | true =>
      subst hdr
      have dc := hD N
      rw [h110, show (u9 m (ldS nx dw m LK true v).2.2.1) 9 = (ldS nx dw m LK true v).2.2.1 from rfl] at dc
      have e0 : ldS nx dw m LK true (v + 1) = if awy nx dw m true v (ldS nx dw m LK true v).2.2.1 = true then ((ldS nx dw m LK true v).1, (ldS nx dw m LK true v).2.1, nx (ldS nx dw m LK true v).2.2.1, (ldS nx dw m LK true v).2.2.2) else ldP m LK v (ldS nx dw m LK true v) (nx (ldS nx dw m LK true v).2.2.1) := by rw [ldS_succ]; unfold ldN; rfl
      generalize hs2 : nx (ldS nx dw m LK true v).2.2.1 = s2 at dc e0
      have k110 : (sI N 110 9 s2).1 110 = u9 m s2 := by rw [u9_110, h110, u9_u9]
      have kF : Fr [110, 117, 118, 119] M (sI N 110 9 s2) := hF.tr (Fr.sI (by simp))
      have kH : LdH m (sI N 110 9 s2) (ldS nx dw m LK true v) := ⟨fun k hk => by rw [sI_at, if_neg (by omega)]; exact h117 k hk, fun k hk => by rw [sI_at, if_neg (by omega)]; exact h118 k hk, fun t ht => by rw [sI_at, if_neg (by omega)]; exact h119 t ht⟩
      have of3 : f_X10_ofOne (sI N 110 9 s2) (nI v) 3 = some (m (57 + 5 * v + 3)) := by
        rw [l_3, ofOneR (by omega) (by omega), k110, u9e (by omega)]
      have aw : awy nx dw m true v (ldS nx dw m LK true v).2.2.1 = decide (¬ m (57 + 5 * v + 3) ≤ dw s2) := by
        unfold awy
        rw [hs2]; rfl
      rw [show bI true = nI 1 from rfl]
      have n1 : ¬ nI 1 = 0 := by decide
      have ib : ibs (4 : Int32) 807 = true := by decide
      have gg : gA N 110 4 = nI (vN m) := g4
      rw [if_pos ib, gg, if_neg (by rw [nI_leI (by omega) (by omega)]; omega), if_neg n1, dc]
      simp only [Option.bind_some, of3]
      by_cases hd : m (57 + 5 * v + 3) ≤ dw s2
      · rw [if_pos hd]
        rw [aw, if_neg (by simpa using hd)] at e0
        exact go _ s2 k110 kF kH _ e0
      · rw [if_neg hd]
        rw [aw, if_pos (by simpa using hd)] at e0
        refine Tr.some (Or.inl ⟨sI N 110 9 s2, ?_, ?_, kF, ?_⟩)
        · simp (disch := omega) only [gI, gR, sA_nI, gA_nI, at_nI, put_nI, ibs_nI, nI_add, nI_mulI, nI_subI, nI_neg1, nI_leI, nI_ltI, nI_eq, nI_ne_m1, nI_m1_ne, nI_nlt0, Option.bind_some, bnd_some, iteP, iteN, reduceIte, if_true, if_false, eq_self, Bool.false_eq_true, l_0, l_1, l_2, l_3, l_4, l_5, l_6, l_7, l_8, l_9, l_10, l_11, l_12, l_13, l_14, l_15, l_16, l_17, l_18, l_19, l_20, l_24, l_30, l_31, l_40, l_45, l_50, l_57, l_58, l_59, l_60, l_61, l_62, l_63, l_64, l_90, l_99, l_100, l_107, l_108, l_109, l_110, l_111, l_299, l_300, l_400, l_407, l_807]
        · rw [e0]; exact k110
        · rw [e0]; exact kH
  · obtain ⟨h110, hF, hH⟩ := hP
    have g4 : N.1 110 4 = nI (vN m) := by rw [h110, u9e (by omega)]; exact e4
    unfold f_X10_leads_L6
    simp (disch := omega) only [gI, gR, sA_nI, gA_nI, at_nI, put_nI, ibs_nI, nI_add, nI_mulI, nI_subI, nI_neg1, nI_leI, nI_ltI, nI_eq, nI_ne_m1, nI_m1_ne, nI_nlt0, Option.bind_some, bnd_some, iteP, iteN, reduceIte, if_true, if_false, eq_self, Bool.false_eq_true, l_0, l_1, l_2, l_3, l_4, l_5, l_6, l_7, l_8, l_9, l_10, l_11, l_12, l_13, l_14, l_15, l_16, l_17, l_18, l_19, l_20, l_24, l_30, l_31, l_40, l_45, l_50, l_57, l_58, l_59, l_60, l_61, l_62, l_63, l_64, l_90, l_99, l_100, l_107, l_108, l_109, l_110, l_111, l_299, l_300, l_400, l_407, l_807, g4]
    exact Tr.some ⟨_, rfl, h110, hF, hH⟩
theorem leadsR2 (HL : LSpec LR LK) (hI : Inv m B) (hm : M.1 110 = m) (h116 : ∀ t v, t < tN m → v < vN m → M.1 116 (10 * t + v) = lkv LK m t v) (dr : Bool) :
    Tr (f_X10_leads M (bI dr)) (fun N => N.1 110 = u9 m (ldS nxs drw m LK dr (vN m)).2.2.1 ∧ Fr [110, 117, 118, 119] M N ∧ LdH m N (ldS nxs drw m LK dr (vN m))) := leadsR HL hI hm h116 (fun _ => drawR) dr
theorem ld_seed0 : ∀ n, (ldS nx dw m LK false n).2.2.1 = m 9 := by
  intro n
  induction n with
  | zero => rfl
  | succ n ih =>
    rw [ldS_succ]
    unfold ldN
    rw [if_neg (show ¬ awy nx dw m false n (ldS nx dw m LK false n).2.2.1 = true by simp [awy])]
    unfold ldP
    cases pkL m LK n (ldS nx dw m LK false n).2.1 with
    | none => exact ih
    | some t => exact ih
end LEADR3
