/-! the reference looks at what is told -/
section WANTED
variable {LR : Mm → Nat → (Nat → Int32) → Prop} {LK : (Nat → Int32) → Nat → Nat → Int32 → Int32} {n : Nat} {M N Mc Mr Nc Nr : Mm} {q B K A : Nat} {m : Nat → Int32} {r x x1 x2 x3 x4 x5 w : Int32} {tp : Nat → Int32}
/-- one byte of it is good -/
def gdB (V : Nat) (tp : Nat → Int32) (i : Nat) : Prop := (tp i).toNatClampNeg < if i % 2 = 0 then V else 2
theorem gd_step (hm4 : M.1 110 4 = nI (vN m)) (hV : vN m ≤ 10) (hA2 : A ≤ 400) (ht : ∀ k, k < A → isN (tp k) 255) (h2 : ∀ k, k < A → M.1 114 k = tp k) {i : Nat} (hi : i < A) : (gdB (vN m) tp i → f_X10_wanted_L30 M (nI A) 1 (nI i) = some (.inl (1, nI (i + 1)))) ∧ (¬ gdB (vN m) tp i → f_X10_wanted_L30 M (nI A) 1 (nI i) = some (.inl (0, nI (i + 1)))) := by
  have ed : nI i - nI i / 2 * 2 = nI (i % 2) := by
    rw [l_2, nI_divI (by omega) (by decide) (by decide), nI_mulI, nI_subI (by omega)]
    congr 1; omega
  have z1 := ht i hi
  have w1 : gA M 114 (nI i) = nI (tp i).toNatClampNeg := by rw [gA_nI (by omega), h2 i hi]; exact z1.1
  have z1 := z1.2
  unfold gdB
  generalize (tp i).toNatClampNeg = y at w1 z1
  have i4 : ibs (4 : Int32) 807 = true := by decide
  have e : f_X10_wanted_L30 M (nI A) 1 (nI i) = if nI (i % 2) = 0 then f_X10_wanted_J30_61 M (nI A) (nI i) (nI (vN m)) (nI y) else f_X10_wanted_J30_61 M (nI A) (nI i) 2 (nI y) := by
    unfold f_X10_wanted_L30
    rw [if_neg (by rw [nI_leI (by omega) (by omega)]; omega), if_neg (by decide), if_pos (ibs_nI (by omega) (by decide)), ed, if_pos i4, show gA M 110 4 = nI (vN m) from hm4, w1]
  have J : ∀ b, b < 2 ^ 31 → f_X10_wanted_J30_61 M (nI A) (nI i) (nI b) (nI y) = if y < b then some (.inl (1, nI (i + 1))) else some (.inl (0, nI (i + 1))) := fun b hb => by
    unfold f_X10_wanted_J30_61
    rw [show nI i + 1 = nI (i + 1) from by rw [l_1, nI_add]]
    by_cases c : y < b
    · rw [if_neg (by rw [nI_leI hb (by omega)]; omega), if_pos c]
    · rw [if_pos (by rw [nI_leI hb (by omega)]; omega), if_neg c]
  rw [e]
  by_cases c : i % 2 = 0
  · rw [if_pos c, c, if_pos (show nI 0 = 0 from rfl), J _ (by omega)]
    exact ⟨fun h => by rw [if_pos h], fun h => by rw [if_neg h]⟩
  · rw [if_neg c, show i % 2 = 1 by omega, if_neg (show ¬ nI 1 = 0 by decide), l_2, J 2 (by decide)]
    exact ⟨fun h => by rw [if_pos h], fun h => by rw [if_neg h]⟩
theorem gd_loop1 (hm4 : M.1 110 4 = nI (vN m)) (hV : vN m ≤ 10) (hA2 : A ≤ 400) (ht : ∀ k, k < A → isN (tp k) 255) (h2 : ∀ k, k < A → M.1 114 k = tp k) (hg : ∀ i, i < A → gdB (vN m) tp i) : loop FU (fun a_2 => f_X10_wanted_L30 M (nI A) a_2.1 a_2.2) (1, 0) = some 1 := by
  refine (lp0 (Q := fun r : Int32 => r = 1) (fun i (_ : Unit) => ((1 : Int32), nI i)) A (fun i _ => True) (by omega) () rfl trivial (fun i _ hi _ => ?_) (fun _ _ => ?_)).eq
  · exact ⟨_, (gd_step hm4 hV hA2 ht h2 hi).1 (hg i hi), Or.inl ⟨(), rfl, trivial⟩⟩
  · refine ⟨.inr 1, ?_, _, rfl, rfl⟩
    show f_X10_wanted_L30 M (nI A) 1 (nI A) = _
    unfold f_X10_wanted_L30
    rw [if_pos (by rw [nI_leI (by omega) (by omega)]; omega)]
theorem gd_loop0 (hm4 : M.1 110 4 = nI (vN m)) (hV : vN m ≤ 10) (hA2 : A ≤ 400) (ht : ∀ k, k < A → isN (tp k) 255) (h2 : ∀ k, k < A → M.1 114 k = tp k) (hg : ¬ ∀ i, i < A → gdB (vN m) tp i) : loop FU (fun a_2 => f_X10_wanted_L30 M (nI A) a_2.1 a_2.2) (1, 0) = some 0 := by
  refine (lp0 (Q := fun r : Int32 => r = 0) (fun i (b : Bool) => (bI b, nI i)) A (fun i b => b = true → ∀ k, k < i → gdB (vN m) tp k) (by omega) true rfl (fun _ k hk => by omega) (fun i b hi hP => ?_) (fun b hP => ?_)).eq
  · cases b with
    | true =>
      by_cases d : gdB (vN m) tp i
      · refine ⟨_, (gd_step hm4 hV hA2 ht h2 hi).1 d, Or.inl ⟨true, rfl, fun _ k hk => ?_⟩⟩
        by_cases e : k = i
        · rw [e]; exact d
        · exact hP rfl k (by omega)
      · exact ⟨_, (gd_step hm4 hV hA2 ht h2 hi).2 d, Or.inl ⟨false, rfl, fun h => by cases h⟩⟩
    | false =>
      refine ⟨.inr 0, ?_, Or.inr ⟨_, rfl, rfl⟩⟩
      show f_X10_wanted_L30 M (nI A) 0 (nI i) = _
      unfold f_X10_wanted_L30
      rw [if_neg (by rw [nI_leI (by omega) (by omega)]; omega), if_pos rfl]
  · cases b with
    | true => exact absurd (hP rfl) hg
    | false =>
      refine ⟨.inr 0, ?_, _, rfl, rfl⟩
      show f_X10_wanted_L30 M (nI A) 0 (nI A) = _
      unfold f_X10_wanted_L30
      rw [if_pos (by rw [nI_leI (by omega) (by omega)]; omega)]
theorem gd_loopB (hA2 : A ≤ 400) : loop FU (fun a_2 => f_X10_wanted_L30 M (nI A) a_2.1 a_2.2) (0, 0) = some 0 := by
  refine (lp0 (Q := fun r : Int32 => r = 0) (fun i (_ : Unit) => ((0 : Int32), nI i)) A (fun i _ => True) (by omega) () rfl trivial (fun i _ hi _ => ?_) (fun _ _ => ?_)).eq
  · refine ⟨.inr 0, ?_, Or.inr ⟨_, rfl, rfl⟩⟩
    show f_X10_wanted_L30 M (nI A) 0 (nI i) = _
    unfold f_X10_wanted_L30
    rw [if_neg (by rw [nI_leI (by omega) (by omega)]; omega), if_pos rfl]
  · refine ⟨.inr 0, ?_, _, rfl, rfl⟩
    show f_X10_wanted_L30 M (nI A) 0 (nI A) = _
    unfold f_X10_wanted_L30
    rw [if_pos (by rw [nI_leI (by omega) (by omega)]; omega)]
theorem gd_td {V : Nat} : (∀ i, i < 2 * K → gdB V tp i) ↔ tdG V K tp := by
  refine ⟨fun h k hk => ⟨?_, ?_⟩, fun h i hi => ?_⟩
  · have := h (2 * k) (by omega)
    unfold gdB at this
    rw [if_pos (by omega)] at this
    exact this
  · have := h (2 * k + 1) (by omega)
    unfold gdB at this
    rw [if_neg (by omega)] at this
    omega
  · have h1 := h (i / 2) (by omega)
    unfold gdB
    by_cases c : i % 2 = 0
    · rw [if_pos c]
      rw [show 2 * (i / 2) = i by omega] at h1
      exact h1.1
    · rw [if_neg c]
      rw [show 2 * (i / 2) + 1 = i by omega] at h1
      omega
theorem innE {s : Nat} : (nI s &&& (r ^^^ (-1)) = 0) = (inn r s = true) := by
  unfold inn
  simp
/-- which sets fit: the reference -/
theorem fitR (hm : M.1 110 = m) (hV : vN m ≤ 10) (hK : K ≤ 20) (ht : tdT K tp) (hg : tdG (vN m) K tp) (h2 : ∀ k, k < 2 * K → M.1 114 k = tp k) : Tr (loop FU (fun a_7 => f_X10_wanted_L87 a_7.1 (nI (2 * K)) a_7.2.1 a_7.2.2) (M, 0, 0)) (fun r => r.2 = nI (cntB (fun j => fitF m tp K j) 64) ∧ Fr [125] M r.1 ∧ ∀ j, j < 64 → r.1.1 125 j = bI (fitF m tp K j)) := by
  refine lp0 (fun i (N : Mm) => (N, nI (cntB (fun j => fitF m tp K j) i), nI i)) 64 (fun i N => Fr [125] M N ∧ ∀ j, j < i → N.1 125 j = bI (fitF m tp K j)) (by decide) M rfl ⟨Fr.rf, fun j hj => by omega⟩ (fun s N hs hP => ?_) (fun N hP => ?_)
  · obtain ⟨hF, hN⟩ := hP
    show Tr (f_X10_wanted_L87 N (nI (2 * K)) (nI (cntB (fun j => fitF m tp K j) s)) (nI s)) _
    have v1 : vp_nar .boolean 1 = 1 := by decide
    have v0 : vp_nar .boolean 0 = 0 := by decide
    have is64 : ibs (nI s) 64 = true := ibs_nI hs (by decide)
    have sa : ∀ (N : Mm) y, sA N 125 (nI s) y = sI N 125 s y := fun N y => sA_nI (by omega)
    have hin : ∀ y3 : Int32, Tr (loop FU (fun a_6 => f_X10_wanted_L105 a_6.1 (nI (2 * K)) y3 (nI s) a_6.2) (sI N 125 s 1, 0)) (fun N2 => Fr [125] M N2 ∧ (∀ j, j < s → N2.1 125 j = bI (fitF m tp K j)) ∧ N2.1 125 s = bI (fitF m tp K s)) := fun y3 => by
      refine lp0 (fun k (N : Mm) => (N, nI (2 * k))) K (fun k N2 => Fr [125] M N2 ∧ (∀ j, j < s → N2.1 125 j = bI (fitF m tp K j)) ∧ N2.1 125 s = bI (fitF m tp k s)) (by omega) (sI N 125 s 1) rfl ⟨hF.tr (Fr.sI (by simp)), fun j hj => by rw [sI_at, if_neg (by omega)]; exact hN j hj, by rw [sI_at, if_pos ⟨rfl, rfl⟩]; rfl⟩ (fun k N2 hk hP2 => ?_) (fun N2 hP2 => ?_)
      · obtain ⟨hF2, g1, g2⟩ := hP2
        show Tr (f_X10_wanted_L105 N2 (nI (2 * K)) y3 (nI s) (nI (2 * k))) _
        have z0 := ht (2 * k) (by omega)
        obtain ⟨u1, u2⟩ := hg k hk
        have t1 : gA N2 114 (nI (2 * k)) = tp (2 * k) := by rw [gA_nI (by omega), (hF2 114 (by simp)).1]; exact h2 _ (by omega)
        have t2 : gA N2 114 (nI (2 * k) + 1) = tp (2 * k + 1) := by rw [l_1, nI_add, gA_nI (by omega), (hF2 114 (by simp)).1]; exact h2 _ (by omega)
        have eo : f_X10_ofOne N2 (tp (2 * k)) 4 = some (m (57 + 5 * (tp (2 * k)).toNatClampNeg + 4)) := by
          have := ofOneR (M := N2) (c := 4) (t := (tp (2 * k)).toNatClampNeg) (by omega) (by decide)
          rw [← z0.1, (hF2 110 (by simp)).1, hm] at this
          exact this
        unfold f_X10_wanted_L105
        rw [if_neg (by rw [nI_leI (by omega) (by omega)]; omega), if_pos is64, show gA N2 125 (nI s) = bI (fitF m tp k s) from (gA_nI (by omega)).trans g2]
        cases hf : fitF m tp k s with
        | false =>
          rw [if_pos (show bI false = 0 from rfl)]
          refine Tr.some (Or.inr ⟨N2, rfl, hF2, g1, ?_⟩)
          rw [g2, hf, fitF_false hf K (by omega)]
        | true =>
          rw [if_neg (show ¬ bI true = 0 from by decide), if_pos (ibs_nI (by omega) (by decide)), t1, eo, Option.bind_some]
          have J1 : ∀ y, f_X10_wanted_J105_178 N2 (nI (2 * K)) y3 (nI s) (nI (2 * k)) y (nI s) = some (.inl (sI N2 125 s (vp_nar .boolean y), nI (2 * (k + 1)))) := fun y => by
            unfold f_X10_wanted_J105_178
            rw [if_pos is64, sa, Option.bind_some, show nI (2 * k) + 2 = nI (2 * (k + 1)) from by rw [l_2, nI_add]; rfl]
          have J2 : ∀ y, f_X10_wanted_J105_152 N2 (nI (2 * K)) y3 (nI s) (nI (2 * k)) y (nI s) = if tp (2 * k + 1) = 1 then (if y = 1 then some (.inl (sI N2 125 s 1, nI (2 * (k + 1)))) else some (.inl (sI N2 125 s 0, nI (2 * (k + 1))))) else (if y = 0 then some (.inl (sI N2 125 s 1, nI (2 * (k + 1)))) else some (.inl (sI N2 125 s 0, nI (2 * (k + 1))))) := fun y => by
            unfold f_X10_wanted_J105_152 f_X10_wanted_J105_170
            rw [show ibs (nI (2 * k) + 1) 400 = true from by rw [l_1, nI_add]; exact ibs_nI (by omega) (by decide), if_pos rfl, t2, J1, J1, v1, v0]
          have ap : ∀ b : Bool, fitF m tp (k + 1) s = b → ∃ s', (Sum.inl (sI N2 125 s (bI b), nI (2 * (k + 1))) : (Mm × Int32) ⊕ Mm) = Sum.inl (s', nI (2 * (k + 1))) ∧ Fr [125] M s' ∧ (∀ j, j < s → s'.1 125 j = bI (fitF m tp K j)) ∧ s'.1 125 s = bI (fitF m tp (k + 1) s) := fun b hb => ⟨_, rfl, hF2.tr (Fr.sI (by simp)), fun j hj => by rw [sI_at, if_neg (by omega)]; exact g1 j hj, by rw [sI_at, if_pos ⟨rfl, rfl⟩, hb]⟩
          have fs := fitF_succ (m := m) (tp := tp) (k := k) (s := s)
          rw [hf, Bool.true_and] at fs
          rw [J2, J2]
          by_cases c1 : inn (m (57 + 5 * (tp (2 * k)).toNatClampNeg + 4)) s = true
          · rw [if_pos (by rw [innE]; exact c1)]
            by_cases c2 : tp (2 * k + 1) = 1
            · rw [if_pos c2, if_pos rfl]
              exact Tr.some (Or.inl (ap true (by rw [fs, c1, c2]; rfl)))
            · rw [if_neg c2, if_neg (by decide)]
              exact Tr.some (Or.inl (ap false (by rw [fs, c1, decide_eq_false c2]; rfl)))
          · rw [if_neg (by rw [innE]; exact c1)]
            by_cases c2 : tp (2 * k + 1) = 1
            · rw [if_pos c2, if_neg (by decide)]
              exact Tr.some (Or.inl (ap false (by rw [fs, c2, Bool.eq_false_iff.mpr c1]; rfl)))
            · rw [if_neg c2, if_pos rfl]
              exact Tr.some (Or.inl (ap true (by rw [fs, decide_eq_false c2, Bool.eq_false_iff.mpr c1]; rfl)))
      · obtain ⟨hF2, g1, g2⟩ := hP2
        show Tr (f_X10_wanted_L105 N2 (nI (2 * K)) y3 (nI s) (nI (2 * K))) _
        unfold f_X10_wanted_L105
        rw [if_pos (by rw [nI_leI (by omega) (by omega)]; omega)]
        exact Tr.some ⟨_, rfl, hF2, g1, g2⟩
    unfold f_X10_wanted_L87
    rw [if_neg (show ¬ (64 : Int32) ≤ nI s by rw [l_64, nI_leI (by omega) (by omega)]; omega), if_pos is64, v1, sa, Option.bind_some]
    refine Tr.bind (hin _) (fun N2 hN2 => ?_)
    obtain ⟨hF2, g1, g2⟩ := hN2
    rw [if_pos is64, show gA N2 125 (nI s) = bI (fitF m tp K s) from (gA_nI (by omega)).trans g2, show nI s + 1 = nI (s + 1) from by rw [l_1, nI_add]]
    have hall : ∀ j, j < s + 1 → N2.1 125 j = bI (fitF m tp K j) := fun j hj => by
      by_cases e : j = s
      · rw [e]; exact g2
      · exact g1 j (by omega)
    cases hf : fitF m tp K s with
    | false =>
      rw [if_pos (show bI false = 0 from rfl), Int32.add_zero]
      refine Tr.some (Or.inl ⟨N2, ?_, hF2, hall⟩)
      rw [cntB_succ, hf]; rfl
    | true =>
      rw [if_neg (show ¬ bI true = 0 from by decide)]
      refine Tr.some (Or.inl ⟨N2, ?_, hF2, hall⟩)
      rw [cntB_succ, hf, if_pos rfl, l_1, nI_add]
  · show Tr (f_X10_wanted_L87 N (nI (2 * K)) (nI (cntB (fun j => fitF m tp K j) 64)) (nI 64)) _
    unfold f_X10_wanted_L87
    rw [if_pos (by decide)]
    exact Tr.some ⟨_, rfl, rfl, hP⟩
/-- the reference: what is told, whole -/
theorem wantedR (hm : M.1 110 = m) (hI : Inv m B) (hA : M.1 109 8 = nI A) (hA2 : A ≤ 400) (ht : ∀ k, k < A → isN (tp k) 255) (h2 : ∀ k, k < A → M.1 114 k = tp k) : (∀ K, A = 2 * K → K ≤ 20 → tdG (vN m) K tp → Tr (f_X10_wanted M) (fun r => r.1 = nI (cntB (fun j => fitF m tp K j) 64) ∧ Fr [125] (sI M 109 8 0) r.2 ∧ ∀ j, j < 64 → r.2.1 125 j = bI (fitF m tp K j))) ∧ (¬ (∃ K, A = 2 * K ∧ K ≤ 20 ∧ tdG (vN m) K tp) → f_X10_wanted M = some (-1, sI M 109 8 0)) := by
  have hV := hI.v
  have e8 : gI M 109 8 = nI A := hA
  have ed : nI A - nI A / 2 * 2 = nI (A % 2) := by
    rw [l_2, nI_divI (by omega) (by decide) (by decide), nI_mulI, nI_subI (by omega)]
    congr 1; omega
  have hm1 : (sI M 109 8 0).1 110 = m := by rw [sI_fn (by decide)]; exact hm
  have h21 : ∀ k, k < A → (sI M 109 8 0).1 114 k = tp k := fun k hk => by rw [sI_fn (by decide)]; exact h2 k hk
  have hm4 : (sI M 109 8 0).1 110 4 = nI (vN m) := by rw [hm1]; exact hV.1
  have bad : f_X10_wanted_J26 (sI M 109 8 0) (nI A) = some (-1, sI M 109 8 0) := by
    unfold f_X10_wanted_J26 f_X10_wanted_J27
    rw [gd_loopB hA2, Option.bind_some, if_pos rfl]
  refine ⟨fun K k1 k2 k3 => ?_, fun hno => ?_⟩
  · subst k1
    unfold f_X10_wanted
    rw [Option.bind_some, e8, ed, show 2 * K % 2 = 0 by omega, if_pos (show nI 0 = 0 from rfl), if_neg (show ¬ (40 : Int32) < nI (2 * K) by rw [l_40, nI_ltI (by omega) (by omega)]; omega)]
    unfold f_X10_wanted_J27
    rw [gd_loop1 hm4 hV.2 hA2 ht h21 (gd_td.mpr k3), Option.bind_some, if_neg (by decide)]
    refine Tr.bind (fitR hm1 hV.2 k2 (fun k hk => ht k hk) k3 h21) (fun r hr => ?_)
    exact Tr.some hr
  · unfold f_X10_wanted
    rw [Option.bind_some, e8, ed]
    by_cases c : A % 2 = 0
    · rw [c, if_pos (show nI 0 = 0 from rfl)]
      by_cases c1 : 40 < A
      · rw [if_pos (show (40 : Int32) < nI A by rw [l_40, nI_ltI (by omega) (by omega)]; exact c1)]
        exact bad
      · rw [if_neg (show ¬ (40 : Int32) < nI A by rw [l_40, nI_ltI (by omega) (by omega)]; exact c1)]
        obtain ⟨K, rfl⟩ : ∃ K, A = 2 * K := ⟨A / 2, by omega⟩
        unfold f_X10_wanted_J27
        rw [gd_loop0 hm4 hV.2 hA2 ht h21 (fun h => hno ⟨K, rfl, by omega, gd_td.mp h⟩), Option.bind_some, if_pos rfl]
    · rw [show A % 2 = 1 by omega, if_neg (by decide)]
      exact bad
end WANTED
