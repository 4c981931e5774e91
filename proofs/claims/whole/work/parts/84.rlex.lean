/-! the reference reads a text -/
section RLEX
variable {M N : Mm} {e p r i j k n a H : Nat} {q : Nat → Bool} {tx : Nat → Int32} {x y v b lo hi : Int32} {w : Nat}
def sAt (M : Mm) (a : Nat) : Mm := sI M 109 11 (nI a)
theorem sI_sI {i k : Nat} : sI (sI M i k x) i k y = sI M i k y := by
  unfold sI
  congr 1
  funext c d
  by_cases h : c = i ∧ d = k
  · obtain ⟨rfl, rfl⟩ := h
    show up2 _ _ _ _ _ _ = up2 _ _ _ _ _ _
    rw [up2_eq, up2_eq]
  · show (if c = i ∧ d = k then y else (if c = i ∧ d = k then x else M.1 c d)) = (if c = i ∧ d = k then y else M.1 c d)
    rw [if_neg h, if_neg h, if_neg h]
theorem sI_self {i k : Nat} (h : M.1 i k = x) : sI M i k x = M := by
  have e : (sI M i k x).1 = M.1 := by
    funext c d
    show (if c = i ∧ d = k then x else M.1 c d) = _
    by_cases g : c = i ∧ d = k
    · rw [if_pos g, g.1, g.2, h]
    · rw [if_neg g]
  exact Prod.ext e rfl
theorem sAt_sAt {a c : Nat} : sAt (sAt M a) c = sAt M c := sI_sI
theorem at_sAt : (sAt M a).1 109 11 = nI a := by unfold sAt; rw [sI_at, if_pos ⟨rfl, rfl⟩]
theorem sAt_ne {c : Nat} (h : c ≠ 11) : (sAt M a).1 109 c = M.1 109 c := by unfold sAt; rw [sI_at, if_neg (by omega)]
theorem sAt_fn (h : j ≠ 109) : (sAt M a).1 j = M.1 j := sI_fn h
def TxR (M : Mm) (tx : Nat → Int32) (e : Nat) : Prop := e ≤ 400 ∧ M.1 109 10 = nI e ∧ ((M.1 109 9 = -1 ∧ ∀ i, i < e → M.1 114 i = tx i) ∨ (M.1 109 9 = nI 407 ∧ ∀ i, i < e → M.1 110 (407 + i) = tx i)) ∧ ∀ i, i < e → isN (tx i) 255
theorem TxR.fr (h : TxR M tx e) (h1 : N.1 109 9 = M.1 109 9) (h2 : N.1 109 10 = M.1 109 10) (h3 : N.1 114 = M.1 114) (h4 : ∀ k, 407 ≤ k → N.1 110 k = M.1 110 k) : TxR N tx e := by
  obtain ⟨e1, e2, e3, e4⟩ := h
  refine ⟨e1, h2.trans e2, ?_, e4⟩
  rcases e3 with ⟨e3, e5⟩ | ⟨e3, e5⟩
  · exact Or.inl ⟨h1.trans e3, fun i hi => by rw [h3]; exact e5 i hi⟩
  · exact Or.inr ⟨h1.trans e3, fun i hi => by rw [h4 _ (by omega)]; exact e5 i hi⟩
theorem TxR.sI9 {c : Nat} (h : TxR M tx e) (h9 : c ≠ 9) (h10 : c ≠ 10) : TxR (sI M 109 c x) tx e := h.fr (by rw [sI_at, if_neg (by omega)]) (by rw [sI_at, if_neg (by omega)]) (sI_fn (by decide)) (fun k _ => by rw [sI_fn (by decide)])
theorem TxR.at (h : TxR M tx e) : TxR (sAt M a) tx e := h.sI9 (by decide) (by decide)
theorem letR (h : TxR M tx e) (hi : i < e) : f_X10_letter M (nI i) = some (tx i) := by
  obtain ⟨e1, e2, e3, e4⟩ := h
  unfold f_X10_letter
  rcases e3 with ⟨e3, e5⟩ | ⟨e3, e5⟩
  · rw [show gI M 109 9 = -1 from e3, if_pos rfl, if_pos (ibs_nI (by omega) (by decide)), gA_nI (by omega), e5 i hi]
  · rw [show gI M 109 9 = nI 407 from e3, if_neg (by decide), nI_add, if_pos (ib807 (by omega)), gA_nI (by omega), e5 i hi]
theorem skipR (h : TxR M tx e) (ha : M.1 109 11 = nI a) (hae : a ≤ e) : f_X10_skip M = some (sAt M (sk tx e a)) := by
  have he := h.1
  obtain ⟨r1, r2, r3⟩ := sk_run (tx := tx) he a
  have rle := sk_le (tx := tx) he hae
  unfold f_X10_skip
  have : loop FU (fun a_3 => f_X10_skip_L0 a_3) M = some (sAt M (sk tx e a)) := by
    refine (lp0 (Q := fun r : Mm => r = sAt M (sk tx e a)) (fun i (_ : Unit) => sAt M (a + i)) (sk tx e a - a) (fun _ _ => True) (by omega) () (sI_self ha).symm trivial (fun i _ hi _ => ?_) (fun _ _ => ?_)).eq
    · have hq := r2 (a + i) (by omega) (by omega)
      show Tr (f_X10_skip_L0 (sAt M (a + i))) _
      have hl : a + i < e := by omega
      have h32 : tx (a + i) = 32 := by
        simp only [skQ, Bool.and_eq_true] at hq
        exact of_decide_eq_true hq.2
      unfold f_X10_skip_L0
      rw [show gI (sAt M (a + i)) 109 11 = nI (a + i) from at_sAt, show gI (sAt M (a + i)) 109 10 = nI e from (sAt_ne (by decide)).trans h.2.1, if_neg (by rw [nI_leI (by omega) (by omega)]; omega), letR h.at hl, Option.bind_some, if_pos h32, Option.bind_some, l_1, nI_add]
      exact Tr.some (Or.inl ⟨(), congrArg Sum.inl sI_sI, trivial⟩)
    · show Tr (f_X10_skip_L0 (sAt M (a + (sk tx e a - a)))) _
      rw [show a + (sk tx e a - a) = sk tx e a by omega]
      unfold f_X10_skip_L0
      rw [show gI (sAt M (sk tx e a)) 109 11 = nI (sk tx e a) from at_sAt, show gI (sAt M (sk tx e a)) 109 10 = nI e from (sAt_ne (by decide)).trans h.2.1]
      by_cases c : e ≤ sk tx e a
      · rw [if_pos (by rw [nI_leI (by omega) (by omega)]; exact c)]
        exact Tr.some ⟨_, rfl, rfl⟩
      · have hl : sk tx e a < e := by omega
        rw [if_neg (by rw [nI_leI (by omega) (by omega)]; exact c), letR h.at hl, Option.bind_some]
        have : ¬ tx (sk tx e a) = 32 := fun hh => by
          simp [skQ, hl, hh] at r3
        rw [if_neg this]
        exact Tr.some ⟨_, rfl, rfl⟩
  rw [this]; rfl
theorem saysR (h : TxR M tx e) (ha : M.1 109 11 = nI a) (hae : a ≤ e) {q : Nat} (hq : isT q = true) : f_X10_says M q = some (samW tx (sk tx e a) (lrE tx e (sk tx e a)) (str q), sAt M (if samW tx (sk tx e a) (lrE tx e (sk tx e a)) (str q) = true then lrE tx e (sk tx e a) else sk tx e a)) := by
  have he := h.1
  have hpe := sk_le (tx := tx) he hae
  obtain ⟨t, ht, rfl⟩ := isT_of hq
  unfold f_X10_says
  rw [skipR h ha hae, Option.bind_some]
  generalize sk tx e a = p at hpe
  obtain ⟨r1, r2, r3⟩ := lr_run (tx := tx) he p
  have rle := run_le ltQ_e (lr_run (tx := tx) he p) hpe
  obtain ⟨s1, s2⟩ := strL (M := sAt M p) ht
  have g11 : gI (sAt M p) 109 11 = nI p := at_sAt
  have g10 : gI (sAt M p) 109 10 = nI e := (sAt_ne (by decide)).trans h.2.1
  have hL9 : loop FU (fun a_3 => f_X10_says_L9 (sAt M p) (400 + t) a_3) (nI p) = some (nI (lrE tx e p)) := by
    refine (lp0 (Q := fun r : Int32 => r = nI (lrE tx e p)) (fun i (_ : Unit) => nI (p + i)) (lrE tx e p - p) (fun _ _ => True) (by omega) () rfl trivial (fun i _ hi _ => ?_) (fun _ _ => ?_)).eq
    · have hq := r2 (p + i) (by omega) (by omega)
      show Tr (f_X10_says_L9 (sAt M p) (400 + t) (nI (p + i))) _
      have hl : p + i < e := by omega
      unfold f_X10_says_L9
      rw [g10, if_neg (by rw [nI_leI (by omega) (by omega)]; omega), letR h.at hl, Option.bind_some]
      have : f_X10_isIn (sAt M p) (tx (p + i)) 97 122 = true := by
        simp only [ltQ, Bool.and_eq_true] at hq
        exact hq.2
      rw [if_pos this]
      exact Tr.some (Or.inl ⟨(), by rw [l_1, nI_add]; rfl, trivial⟩)
    · show Tr (f_X10_says_L9 (sAt M p) (400 + t) (nI (p + (lrE tx e p - p)))) _
      rw [show p + (lrE tx e p - p) = lrE tx e p by omega]
      unfold f_X10_says_L9
      rw [g10]
      by_cases c : e ≤ lrE tx e p
      · rw [if_pos (by rw [nI_leI (by omega) (by omega)]; exact c)]
        exact Tr.some ⟨_, rfl, rfl⟩
      · have hl : lrE tx e p < e := by omega
        rw [if_neg (by rw [nI_leI (by omega) (by omega)]; exact c), letR h.at hl, Option.bind_some]
        have : ¬ f_X10_isIn (sAt M p) (tx (lrE tx e p)) 97 122 = true := fun hh => by
          have r3 := r3
          simp only [ltQ, hl, decide_true, Bool.true_and] at r3
          rw [show ltC (tx (lrE tx e p)) = true from hh] at r3
          cases r3
        rw [if_neg this]
        exact Tr.some ⟨_, rfl, rfl⟩
  rw [g11, hL9, Option.bind_some, s1, nI_subI r1]
  by_cases c : (str (400 + t)).length = lrE tx e p - p
  · rw [if_pos (by rw [c])]
    generalize hL : (str (400 + t)).length = L at s1 s2 c
    have key := lpF (f := fun a_6 => f_X10_says_L55 (sAt M p) (400 + t) (nI (lrE tx e p)) a_6) (fun k => !(decide (tx (p + k) = (str (400 + t)).getD k 0))) (fun _ => (false, sAt M p)) L (by omega) (fun k hk hp2 => by
      have hp2 : (!(decide (tx (p + k) = (str (400 + t)).getD k 0))) = false := hp2
      show f_X10_says_L55 (sAt M p) (400 + t) (nI (lrE tx e p)) (nI k) = _
      unfold f_X10_says_L55
      rw [s1, if_neg (by rw [nI_leI (by omega) (by omega)]; omega), g11, nI_add, letR h.at (by omega), Option.bind_some, strC ht (by rw [hL]; exact hk), Option.bind_some, if_pos (nb_t hp2), l_1, nI_add]) (fun k hk hp2 => by
      have hp2 : (!(decide (tx (p + k) = (str (400 + t)).getD k 0))) = true := hp2
      show f_X10_says_L55 (sAt M p) (400 + t) (nI (lrE tx e p)) (nI k) = _
      unfold f_X10_says_L55
      rw [s1, if_neg (by rw [nI_leI (by omega) (by omega)]; omega), g11, nI_add, letR h.at (by omega), Option.bind_some, strC ht (by rw [hL]; exact hk), Option.bind_some, if_neg (nb_f hp2)]) (by
      show f_X10_says_L55 (sAt M p) (400 + t) (nI (lrE tx e p)) (nI L) = _
      unfold f_X10_says_L55
      rw [s1, if_pos (by rw [nI_leI (by omega) (by omega)]; omega)])
    have key : loop FU (fun a_6 => f_X10_says_L55 (sAt M p) (400 + t) (nI (lrE tx e p)) a_6) 0 = _ := key
    rw [key, Option.bind_some]
    have hs : samW tx p (lrE tx e p) (str (400 + t)) = allB (fun k => decide (tx (p + k) = (str (400 + t)).getD k 0)) L := by
      unfold samW
      rw [hL, decide_eq_true c, Bool.true_and]
    rw [hs]
    cases hf : fnd (fun k => !(decide (tx (p + k) = (str (400 + t)).getD k 0))) L with
    | none =>
      have : allB (fun k => decide (tx (p + k) = (str (400 + t)).getD k 0)) L = true := allB_iff.mpr (fun k hk => decide_eq_true (nb_t (fnd_none hf hk)))
      rw [this, if_pos rfl]
      show (some (sI (sAt M p) 109 11 (nI (lrE tx e p)))).bind (fun M7 => some (true, M7)) = _
      rw [Option.bind_some]
      exact congrArg (fun z => some (true, z)) sI_sI
    | some k =>
      obtain ⟨h1, h2⟩ := fnd_ok hf
      have : allB (fun k => decide (tx (p + k) = (str (400 + t)).getD k 0)) L = false := Bool.eq_false_iff.mpr (fun hc => nb_f h2 (of_decide_eq_true (allB_iff.mp hc k h1)))
      rw [this, if_neg (by decide)]
      rfl
  · have hs : samW tx p (lrE tx e p) (str (400 + t)) = false := by
      unfold samW
      rw [decide_eq_false c, Bool.false_and]
    rw [if_neg (by rw [nI_eq (by omega) (by omega)]; exact fun e2 => c e2.symm), hs, if_neg (by decide)]
theorem signR (h : TxR M tx e) (ha : M.1 109 11 = nI a) (hae : a ≤ e) (c : Int32) : f_X10_isSign M c = some (decide (sk tx e a < e) && decide (tx (sk tx e a) = c), sAt M (sk tx e a)) := by
  have he := h.1
  have hpe := sk_le (tx := tx) he hae
  unfold f_X10_isSign
  rw [skipR h ha hae, Option.bind_some]
  generalize sk tx e a = p at hpe
  rw [show gI (sAt M p) 109 11 = nI p from at_sAt, show gI (sAt M p) 109 10 = nI e from (sAt_ne (by decide)).trans h.2.1]
  by_cases d : e ≤ p
  · rw [if_pos (by rw [nI_leI (by omega) (by omega)]; exact d)]
    have : ¬ p < e := by omega
    simp [this]
  · have hl : p < e := by omega
    rw [if_neg (by rw [nI_leI (by omega) (by omega)]; exact d), letR h.at hl, Option.bind_some]
    by_cases f : tx p = c
    · rw [if_pos f]; simp [hl, f]
    · rw [if_neg f]; simp [hl, f]
theorem wrongR (hf : M.1 109 12 = -1) : f_X10_wrong M x = sI M 109 12 x := by
  unfold f_X10_wrong
  rw [show gI M 109 12 = -1 from hf, if_pos rfl]
theorem wrongR2 (hf : M.1 109 12 ≠ -1) : f_X10_wrong M x = M := by
  unfold f_X10_wrong
  rw [if_neg (show ¬ gI M 109 12 = -1 from hf)]
/-- a number is read: only with at most three digits is it right -/
theorem figR (h : TxR M tx e) (hf : M.1 109 12 = -1) (ha : M.1 109 11 = nI a) (hae : a ≤ e) (hb : sk tx e a = p) (hhi : hi < nI 1000) : ((p < e ∧ ltC (tx p) = false ∧ dgC (tx p) = true ∧ ¬ nI (nuV tx p (dgE tx e p)) < lo ∧ ¬ hi < nI (nuV tx p (dgE tx e p))) → f_X10_figures M lo hi = some (nI (nuV tx p (dgE tx e p)), sAt M (dgE tx e p))) ∧ (¬ (p < e ∧ ltC (tx p) = false ∧ dgC (tx p) = true ∧ ¬ nI (nuV tx p (dgE tx e p)) < lo ∧ ¬ hi < nI (nuV tx p (dgE tx e p))) → ∃ x a2, a2 ≤ e ∧ f_X10_figures M lo hi = some (x, sI (sAt M a2) 109 12 (nI p))) := by
  have he := h.1
  have hpe := sk_le (tx := tx) he hae
  rw [hb] at hpe
  obtain ⟨r1, r2, r3⟩ := dg_run (tx := tx) he p
  have rle := run_le dgQ_e (dg_run (tx := tx) he p) hpe
  have hall : ∀ i, p ≤ i → i < dgE tx e p → dgC (tx i) = true := fun i h1 h2 => by
    have := r2 i h1 h2
    simp only [dgQ, Bool.and_eq_true] at this
    exact this.2
  have hlen : p < e ∧ dgC (tx p) = true ↔ p < dgE tx e p := by
    refine ⟨fun hh => run_lt (dg_run he p) (by simp [dgQ, hh.1, hh.2]), fun hh => ⟨by omega, hall p (Nat.le_refl _) hh⟩⟩
  have hdl : ∀ {z : Int32}, dgC z = true → ltC z = false := fun {z} hz => by
    unfold dgC at hz
    unfold ltC
    by_cases c1 : z < 48
    · rw [if_pos c1] at hz; cases hz
    · rw [if_neg c1] at hz
      by_cases c2 : 57 < z
      · rw [if_pos c2] at hz; cases hz
      · have : z < 97 := by
          rw [Int32.not_lt, Int32.le_iff_toInt_le] at c2
          rw [Int32.lt_iff_toInt_lt]
          have e1 : ((57 : Int32)).toInt = 57 := rfl
          have e2 : ((97 : Int32)).toInt = 97 := rfl
          omega
        rw [if_pos this]
  have hnb := nuN_lt (tx := tx) (p := p) (r := dgE tx e p) (fun i h1 h2 => by
    have := dg_nat (h.2.2.2 i (by omega)) (hall i h1 h2)
    omega)
  have h10 : ∀ k, k ≤ 4 → 10 ^ k ≤ 10 ^ 4 := fun k hk => Nat.pow_le_pow_right (by decide) hk
  have g10 : ∀ c, gI (sAt M c) 109 10 = nI e := fun c => (sAt_ne (by decide)).trans h.2.1
  have g11 : ∀ c, gI (sAt M c) 109 11 = nI c := fun c => at_sAt
  have g12 : ∀ c, (sAt M c).1 109 12 = -1 := fun c => (sAt_ne (by decide)).trans hf
  have hL : loop FU (fun a_6 => f_X10_figures_L18 a_6.1 lo hi (nI p) a_6.2) (sAt M p, 0) = some (sAt M (p + min (dgE tx e p - p) 4), nI (nuN tx p (min (dgE tx e p - p) 4))) := by
    refine (lp0 (Q := fun r : Mm × Int32 => r = (sAt M (p + min (dgE tx e p - p) 4), nI (nuN tx p (min (dgE tx e p - p) 4)))) (fun k (_ : Unit) => (sAt M (p + k), nI (nuN tx p k))) (min (dgE tx e p - p) 4) (fun _ _ => True) (by omega) () rfl trivial (fun k _ hk _ => ?_) (fun _ _ => ?_)).eq
    · have hq := hall (p + k) (by omega) (by omega)
      obtain ⟨c1, c2, c3⟩ := dg_nat (h.2.2.2 (p + k) (by omega)) hq
      have hlt := hnb k (by omega)
      have h10 : (10 : Nat) ^ k ≤ 10000 := h10 k (by omega)
      show Tr (f_X10_figures_L18 (sAt M (p + k)) lo hi (nI p) (nI (nuN tx p k))) _
      unfold f_X10_figures_L18
      rw [g10, g11, if_neg (by rw [nI_leI (by omega) (by omega)]; omega), letR h.at (by omega), Option.bind_some, if_pos (show f_X10_isIn (sAt M (p + k)) (tx (p + k)) 48 57 = true from hq), nI_subI (by omega), show p + k - p = k by omega, if_neg (show ¬ (3 : Int32) < nI k by rw [l_3, nI_ltI (by omega) (by omega)]; omega), Option.bind_some, Option.bind_some]
      generalize hz : (tx (p + k)).toNatClampNeg = z at c1 c2 c3
      rw [c1, l_10, nI_mulI, nI_add, show (48 : Int32) = nI 48 from rfl, nI_subI (by omega), l_1, nI_add]
      refine Tr.some (Or.inl ⟨(), ?_, trivial⟩)
      show Sum.inl (sI (sAt M (p + k)) 109 11 (nI (p + k + 1)), nI (10 * nuN tx p k + z - 48)) = Sum.inl (sAt M (p + (k + 1)), nI (nuN tx p (k + 1)))
      rw [nuN_succ, hz, show p + (k + 1) = p + k + 1 by omega, ← sAt_sAt (a := p + k) (c := p + k + 1), show 10 * nuN tx p k + z - 48 = nuN tx p k * 10 + (z - 48) by omega]
      rfl
    · show Tr (f_X10_figures_L18 (sAt M (p + min (dgE tx e p - p) 4)) lo hi (nI p) (nI (nuN tx p (min (dgE tx e p - p) 4)))) _
      generalize hm : min (dgE tx e p - p) 4 = k
      unfold f_X10_figures_L18
      rw [g10, g11]
      by_cases c : e ≤ p + k
      · rw [if_pos (by rw [nI_leI (by omega) (by omega)]; exact c)]
        exact Tr.some ⟨_, rfl, rfl⟩
      · rw [if_neg (by rw [nI_leI (by omega) (by omega)]; exact c), letR h.at (by omega), Option.bind_some]
        by_cases d : f_X10_isIn (sAt M (p + k)) (tx (p + k)) 48 57 = true
        · rw [if_pos d, nI_subI (by omega), show p + k - p = k by omega]
          have hk4 : k = 4 := by
            refine Classical.byContradiction (fun hc => ?_)
            have hk : k = dgE tx e p - p := by omega
            rw [hk, show p + (dgE tx e p - p) = dgE tx e p by omega] at d
            have hl : dgE tx e p < e := by omega
            have r3 := r3
            simp only [dgQ, hl, decide_true, Bool.true_and] at r3
            rw [show dgC (tx (dgE tx e p)) = true from d] at r3
            cases r3
          rw [if_pos (show (3 : Int32) < nI k by rw [l_3, nI_ltI (by omega) (by omega)]; omega)]
          exact Tr.some ⟨_, rfl, rfl⟩
        · rw [if_neg d]
          exact Tr.some ⟨_, rfl, rfl⟩
  have J : ∀ c v, f_X10_figures_J119 (sAt M c) (nI p) v = some (v, sI (sAt M c) 109 12 (nI p)) := fun c v => by
    unfold f_X10_figures_J119
    rw [wrongR (g12 c), Option.bind_some]
  have body : f_X10_figures M lo hi = if nI (p + min (dgE tx e p - p) 4) = nI p then some (nI (nuN tx p (min (dgE tx e p - p) 4)), sI (sAt M (p + min (dgE tx e p - p) 4)) 109 12 (nI p)) else if 3 < nI (min (dgE tx e p - p) 4) then some (nI (nuN tx p (min (dgE tx e p - p) 4)), sI (sAt M (p + min (dgE tx e p - p) 4)) 109 12 (nI p)) else if nI (nuN tx p (min (dgE tx e p - p) 4)) < lo then some (nI (nuN tx p (min (dgE tx e p - p) 4)), sI (sAt M (p + min (dgE tx e p - p) 4)) 109 12 (nI p)) else if nI (nuN tx p (min (dgE tx e p - p) 4)) ≤ hi then some (nI (nuN tx p (min (dgE tx e p - p) 4)), sAt M (p + min (dgE tx e p - p) 4)) else some (nI (nuN tx p (min (dgE tx e p - p) 4)), sI (sAt M (p + min (dgE tx e p - p) 4)) 109 12 (nI p)) := by
    unfold f_X10_figures f_X10_place
    rw [show gI M 109 12 = -1 from hf, if_pos rfl, skipR h ha hae, Option.bind_some, hb, Option.bind_some, g11, hL, Option.bind_some, g11, J, nI_subI (by omega), show p + min (dgE tx e p - p) 4 - p = min (dgE tx e p - p) 4 by omega]
  generalize hm : min (dgE tx e p - p) 4 = k at body
  refine ⟨fun ⟨h1, h2, h3, h4, h5⟩ => ?_, fun hno => ?_⟩
  · have hlt := hlen.mp ⟨h1, h3⟩
    have h3d : dgE tx e p - p ≤ 3 := by
      refine Classical.byContradiction (fun hc => ?_)
      have : nuV tx p (dgE tx e p) = 1000 := by unfold nuV; rw [if_neg hc]
      rw [this] at h5
      exact h5 hhi
    have ek : k = dgE tx e p - p := by omega
    have en : nuV tx p (dgE tx e p) = nuN tx p k := by unfold nuV; rw [if_pos h3d, ek]
    have hp : p + k = dgE tx e p := by omega
    rw [en] at h4 h5 ⊢
    rw [body, if_neg (by rw [nI_eq (by omega) (by omega)]; omega), if_neg (show ¬ (3 : Int32) < nI k by rw [l_3, nI_ltI (by omega) (by omega)]; omega), if_neg h4, if_pos (by rw [← Int32.not_lt]; exact h5), hp]
  · refine ⟨nI (nuN tx p k), p + k, by omega, ?_⟩
    rw [body]
    by_cases c1 : nI (p + k) = nI p
    · rw [if_pos c1]
    · rw [if_neg c1]
      have hk0 : k ≠ 0 := fun e2 => c1 (by rw [e2]; rfl)
      by_cases c2 : 3 < nI k
      · rw [if_pos c2]
      · rw [if_neg c2]
        rw [l_3, nI_ltI (by omega) (by omega)] at c2
        have ek : k = dgE tx e p - p := by omega
        have en : nuV tx p (dgE tx e p) = nuN tx p k := by unfold nuV; rw [if_pos (by omega), ek]
        have hd := hlen.mpr (by omega)
        rw [en] at hno
        by_cases c3 : nI (nuN tx p k) < lo
        · rw [if_pos c3]
        · rw [if_neg c3]
          by_cases c4 : nI (nuN tx p k) ≤ hi
          · exact absurd ⟨hd.1, hdl hd.2, hd.2, c3, by rw [Int32.not_lt]; exact c4⟩ hno
          · rw [if_neg c4]
end RLEX
