/-! what is told by rings: the sets that fit -/
section TOLD
variable {LR : Mm → Nat → (Nat → Int32) → Prop} {LK : (Nat → Int32) → Nat → Nat → Int32 → Int32} {n : Nat} {M N Mc Mr Nc Nr : Mm} {q B K A : Nat} {m : Nat → Int32} {r x x1 x2 x3 x4 x5 w : Int32} {tp : Nat → Int32}
def inn (r : Int32) (s : Nat) : Bool := decide (nI s &&& (r ^^^ (-1)) = 0)
theorem setsC : Tr (f_X9_setsWithin M r) (fun w => ∀ j, j < 64 → (U8 w).testBit j = inn r j) := by
  unfold f_X9_setsWithin
  refine Tr.bind (Q := fun w => ∀ j, j < 64 → (U8 w).testBit j = inn r j) ?_ (fun w hw => Tr.some hw)
  refine lp0 (fun i (w : Int64) => (w, nI i)) 64 (fun i w => ∀ j, j < 64 → (U8 w).testBit j = (decide (j < i) && inn r j)) (by decide) 0 rfl (fun j hj => by rw [show U8 0 = 0 from rfl, Nat.zero_testBit]; rfl) (fun i w hi hP => ?_) (fun w hP => ?_)
  · show Tr (f_X9_setsWithin_L4 M r w (nI i)) _
    unfold f_X9_setsWithin_L4
    rw [if_neg (show ¬ (64 : Int32) ≤ nI i by rw [l_64, nI_leI (by omega) (by omega)]; omega), show nI i + 1 = nI (i + 1) from by rw [l_1, nI_add]]
    by_cases c : nI i &&& (r ^^^ (-1)) = 0
    · rw [if_pos c]
      refine Tr.some (Or.inl ⟨_, rfl, fun j hj => ?_⟩)
      rw [U_or, U_lsh1 i hi, Nat.testBit_or, hP j hj, Nat.testBit_two_pow]
      by_cases e : i = j
      · subst e
        have : inn r i = true := decide_eq_true c
        simp [this]
      · by_cases e2 : j < i
        · simp [e, e2, show j < i + 1 by omega]
        · simp [e, e2, show ¬ j < i + 1 by omega]
    · rw [if_neg c]
      refine Tr.some (Or.inl ⟨_, rfl, fun j hj => ?_⟩)
      rw [hP j hj]
      by_cases e : i = j
      · subst e
        have : inn r i = false := decide_eq_false c
        simp [this]
      · by_cases e2 : j < i
        · simp [e2, show j < i + 1 by omega]
        · simp [e2, show ¬ j < i + 1 by omega]
  · show Tr (f_X9_setsWithin_L4 M r w (nI 64)) _
    unfold f_X9_setsWithin_L4
    rw [if_pos (by decide)]
    exact Tr.some ⟨_, rfl, fun j hj => by rw [hP j hj]; simp [hj]⟩
/-- whether a set fits the first k that are told -/
def fitF (m tp : Nat → Int32) (k s : Nat) : Bool := iter (fun i b => b && (inn (m (57 + 5 * (tp (2 * i)).toNatClampNeg + 4)) s == decide (tp (2 * i + 1) = 1))) k true
theorem fitF_succ {k s : Nat} : fitF m tp (k + 1) s = (fitF m tp k s && (inn (m (57 + 5 * (tp (2 * k)).toNatClampNeg + 4)) s == decide (tp (2 * k + 1) = 1))) := rfl
theorem fitF_false {s i : Nat} (h : fitF m tp i s = false) : ∀ k, i ≤ k → fitF m tp k s = false := by
  intro k
  induction k with
  | zero => intro hk; rw [show i = 0 by omega] at h; exact h
  | succ k ih =>
    intro hk
    by_cases e : i = k + 1
    · rw [← e]; exact h
    · rw [fitF_succ, ih (by omega)]; rfl
/-- what is told is good -/
def tdG (V K : Nat) (tp : Nat → Int32) : Prop := ∀ k, k < K → (tp (2 * k)).toNatClampNeg < V ∧ (tp (2 * k + 1)).toNatClampNeg ≤ 1
def tdT (K : Nat) (tp : Nat → Int32) : Prop := ∀ k, k < 2 * K → isN (tp k) 255
theorem U_m1 : ∀ j, j < 64 → (U8 (-1)).testBit j = true := by decide +kernel
theorem fittingC (hk : kd q = 4) (hq : M.2.2 1 3 = q) (h : MR M q m) (hV : vN m ≤ 10) (hK : K ≤ 20) (ht : tdT K tp) (hg : tdG (vN m) K tp) (h2 : ∀ k, k < 2 * K → M.1 2 k = tp k) : Tr (f_X9_fittingSets M (nI (2 * K))) (fun w => ∀ j, j < 64 → (U8 w).testBit j = fitF m tp K j) := by
  unfold f_X9_fittingSets
  refine Tr.bind (Q := fun w => ∀ j, j < 64 → (U8 w).testBit j = fitF m tp K j) ?_ (fun w hw => Tr.some hw)
  refine lp0 (fun i (w : Int64) => (w, nI (2 * i))) K (fun i w => ∀ j, j < 64 → (U8 w).testBit j = fitF m tp i j) (by omega) (-1) rfl (fun j hj => by rw [U_m1 j hj]; rfl) (fun i w hi hP => ?_) (fun w hP => ?_)
  · show Tr (f_X9_fittingSets_L7 M (nI (2 * K)) w (nI (2 * i))) _
    have h0 := ht (2 * i) (by omega)
    obtain ⟨g1, g2⟩ := hg i hi
    have ev : f_X4_ofVisitor M q (tp (2 * i)) 4 = m (57 + 5 * (tp (2 * i)).toNatClampNeg + 4) := by
      have := ofV (c := 4) hk h (t := (tp (2 * i)).toNatClampNeg) (by omega) (by decide)
      rw [← h0.1] at this
      exact this
    unfold f_X9_fittingSets_L7
    rw [if_neg (by rw [nI_leI (by omega) (by omega)]; omega), Option.bind_some, show gR M 1 3 = q from hq, if_pos hk, a2 (by omega), show nI (2 * i) + 1 = nI (2 * i + 1) from by rw [l_1, nI_add], a2 (by omega), h2 _ (by omega), h2 _ (by omega), ev, show nI (2 * i) + 2 = nI (2 * (i + 1)) from by rw [l_2, nI_add]; rfl]
    refine Tr.bind setsC (fun z hz => ?_)
    by_cases c : tp (2 * i + 1) = 1
    · rw [if_pos c]
      refine Tr.some (Or.inl ⟨_, rfl, fun j hj => ?_⟩)
      rw [U_and, Nat.testBit_and, hP j hj, hz j hj, fitF_succ]
      simp [c]
    · rw [if_neg c]
      refine Tr.some (Or.inl ⟨_, rfl, fun j hj => ?_⟩)
      rw [U_and, Nat.testBit_and, hP j hj, U_xor, Nat.testBit_xor, hz j hj, U_m1 j hj, fitF_succ]
      simp [c]
  · show Tr (f_X9_fittingSets_L7 M (nI (2 * K)) w (nI (2 * K))) _
    unfold f_X9_fittingSets_L7
    rw [if_pos (by rw [nI_leI (by omega) (by omega)]; omega)]
    exact Tr.some ⟨_, rfl, hP⟩
/-- the class looks at what is told -/
theorem toldC (hk : kd q = 4) (hq : M.2.2 1 3 = q) (h4 : M.1 q 4 = nI (vN m)) (hV : vN m ≤ 10) (hA : M.1 1 1 = nI A) (hA2 : A ≤ 400) (ht : ∀ k, k < A → isN (tp k) 255) (h2 : ∀ k, k < A → M.1 2 k = tp k) : (∃ K, A = 2 * K ∧ K ≤ 20 ∧ tdG (vN m) K tp ∧ f_X9_takeTold M = some (nI A, sI M 1 1 0)) ∨ (¬ (∃ K, A = 2 * K ∧ K ≤ 20 ∧ tdG (vN m) K tp) ∧ f_X9_takeTold M = some (-1, sI M 1 1 0)) := by
  have e : f_X9_useTapeUp M = (nI A, sI M 1 1 0) := by
    unfold f_X9_useTapeUp
    rw [show gI M 1 1 = nI A from hA]
  have ed : nI A - nI A / 2 * 2 = nI (A % 2) := by
    rw [l_2, nI_divI (by omega) (by decide) (by decide), nI_mulI, nI_subI (by omega)]
    congr 1; omega
  unfold f_X9_takeTold
  rw [e, Option.bind_some]
  by_cases c1 : 40 < A
  · refine Or.inr ⟨fun ⟨K, k1, k2, k3⟩ => by omega, ?_⟩
    rw [if_pos (show (40 : Int32) < nI A by rw [l_40, nI_ltI (by omega) (by omega)]; exact c1)]
  · rw [if_neg (show ¬ (40 : Int32) < nI A by rw [l_40, nI_ltI (by omega) (by omega)]; exact c1), ed]
    by_cases c2 : A % 2 = 0
    · rw [c2, if_pos (show nI 0 = 0 from rfl)]
      obtain ⟨K, rfl⟩ : ∃ K, A = 2 * K := ⟨A / 2, by omega⟩
      have hqd := md4 hk
      have stp : ∀ i, i < K → f_X9_takeTold_L21 (sI M 1 1 0) (nI (2 * K)) (nI (2 * i)) = if (tp (2 * i)).toNatClampNeg < vN m ∧ (tp (2 * i + 1)).toNatClampNeg ≤ 1 then some (.inl (nI (2 * (i + 1)))) else some (.inr (.inl (-1, sI M 1 1 0))) := fun i hi => by
        have z1 := ht (2 * i) (by omega)
        have z2 := ht (2 * i + 1) (by omega)
        have w1 : (sI M 1 1 0).1 2 (2 * i) = nI (tp (2 * i)).toNatClampNeg := by rw [sI_fn (by decide), h2 _ (by omega)]; exact z1.1
        have w2 : (sI M 1 1 0).1 2 (2 * i + 1) = nI (tp (2 * i + 1)).toNatClampNeg := by rw [sI_fn (by decide), h2 _ (by omega)]; exact z2.1
        have z1 := z1.2
        have z2 := z2.2
        generalize (tp (2 * i)).toNatClampNeg = y1 at w1 z1
        generalize (tp (2 * i + 1)).toNatClampNeg = y2 at w2 z2
        unfold f_X9_takeTold_L21
        rw [if_neg (by rw [nI_leI (by omega) (by omega)]; omega), Option.bind_some, show gR (sI M 1 1 0) 1 3 = q from hq, if_pos hk, show gI (sI M 1 1 0) q 4 = nI (vN m) from by show (sI M 1 1 0).1 q 4 = _; rw [sI_fn (by omega)]; exact h4, a2 (by omega), w1, show nI (2 * i) + 1 = nI (2 * i + 1) from by rw [l_1, nI_add], a2 (by omega), w2, show nI (2 * i) + 2 = nI (2 * (i + 1)) from by rw [l_2, nI_add]; rfl]
        by_cases d1 : vN m ≤ y1
        · rw [if_pos (by rw [nI_leI (by omega) (by omega)]; exact d1), if_neg (by omega)]
        · rw [if_neg (by rw [nI_leI (by omega) (by omega)]; exact d1)]
          by_cases d2 : y2 ≤ 1
          · rw [if_pos (show nI y2 ≤ 1 by rw [l_1, nI_leI (by omega) (by omega)]; exact d2), if_pos ⟨by omega, d2⟩]
          · rw [if_neg (show ¬ nI y2 ≤ 1 by rw [l_1, nI_leI (by omega) (by omega)]; exact d2), if_neg (by omega)]
      have fin : f_X9_takeTold_L21 (sI M 1 1 0) (nI (2 * K)) (nI (2 * K)) = some (.inr (.inr ())) := by
        unfold f_X9_takeTold_L21
        rw [if_pos (by rw [nI_leI (by omega) (by omega)]; omega)]
      by_cases c3 : tdG (vN m) K tp
      · refine Or.inl ⟨K, rfl, by omega, c3, ?_⟩
        have : loop FU (fun a_4 => f_X9_takeTold_L21 (sI M 1 1 0) (nI (2 * K)) a_4) 0 = some (.inr ()) := by
          refine (lp0 (Q := fun r : (Int32 × Mm) ⊕ Unit => r = .inr ()) (fun i (_ : Unit) => nI (2 * i)) K (fun i _ => True) (by omega) () rfl trivial (fun i _ hi _ => ?_) (fun _ _ => ?_)).eq
          · exact ⟨_, (stp i hi).trans (if_pos (c3 i hi)), Or.inl ⟨(), rfl, trivial⟩⟩
          · exact ⟨_, fin, _, rfl, rfl⟩
        rw [this]; rfl
      · refine Or.inr ⟨fun ⟨K2, k1, k2, k3⟩ => c3 (by rw [show K = K2 by omega]; exact k3), ?_⟩
        have : loop FU (fun a_4 => f_X9_takeTold_L21 (sI M 1 1 0) (nI (2 * K)) a_4) 0 = some (.inl (-1, sI M 1 1 0)) := by
          refine (lp0 (Q := fun r : (Int32 × Mm) ⊕ Unit => r = .inl (-1, sI M 1 1 0)) (fun i (_ : Unit) => nI (2 * i)) K (fun i _ => ∀ k, k < i → (tp (2 * k)).toNatClampNeg < vN m ∧ (tp (2 * k + 1)).toNatClampNeg ≤ 1) (by omega) () rfl (fun k hk => by omega) (fun i _ hi hP => ?_) (fun _ hP => ?_)).eq
          · by_cases d : (tp (2 * i)).toNatClampNeg < vN m ∧ (tp (2 * i + 1)).toNatClampNeg ≤ 1
            · exact ⟨_, (stp i hi).trans (if_pos d), Or.inl ⟨(), rfl, fun k hk => by
                by_cases e : k = i
                · rw [e]; exact d
                · exact hP k (by omega)⟩⟩
            · exact ⟨_, (stp i hi).trans (if_neg d), Or.inr ⟨_, rfl, rfl⟩⟩
          · exact absurd hP c3
        rw [this]; rfl
    · have c4 : A % 2 = 1 := by omega
      refine Or.inr ⟨fun ⟨K, k1, k2, k3⟩ => by omega, ?_⟩
      rw [c4, if_neg (by decide)]
end TOLD
