/-! the class opens a text -/
section OPEN
variable {M N : Mm} {e p r i j R : Nat} {q : Nat → Bool} {tx : Nat → Int32}
/-- a loop that comes to its end by a measure -/
theorem lpU {σ ρ : Type} {f : σ → Option (σ ⊕ ρ)} (μ : σ → Nat) (P : σ → Prop) {Q : ρ → Prop} (hs : ∀ s, P s → Tr (f s) (fun x => (∃ s', x = .inl s' ∧ P s' ∧ μ s' < μ s) ∨ ∃ r, x = .inr r ∧ Q r)) : ∀ k s, μ s < k → P s → Tr (loop k f s) Q := by
  intro k
  induction k with
  | zero => intro s h; exact absurd h (Nat.not_lt_zero _)
  | succ k ih =>
    intro s hk hP
    obtain ⟨x, h1, h2⟩ := hs s hP
    rcases h2 with ⟨s', rfl, h3, h4⟩ | ⟨r, rfl, h3⟩
    · obtain ⟨r, h5, h6⟩ := ih s' (by omega) h3
      exact ⟨r, by rw [loop, h1]; exact h5, h6⟩
    · exact ⟨r, by rw [loop, h1]; rfl, h3⟩
theorem lpM {σ ρ : Type} {f : σ → Option (σ ⊕ ρ)} (μ : σ → Nat) (P : σ → Prop) {Q : ρ → Prop} (hs : ∀ s, P s → Tr (f s) (fun x => (∃ s', x = .inl s' ∧ P s' ∧ μ s' < μ s) ∨ ∃ r, x = .inr r ∧ Q r)) (s : σ) (hk : μ s < 10000) (hP : P s) : Tr (loop FU f s) Q := lpU μ P hs FU s hk hP
/-- what is asked of a text in the memory's row -/
def TxC (M : Mm) (tx : Nat → Int32) (e : Nat) : Prop := e ≤ 400 ∧ ∀ i, i < e → M.1 2 i = tx i ∧ isN (tx i) 255
theorem TxC.at (h : TxC M tx e) (hi : i < e) : t_X9_at M 2 (nI i) = tx i := by
  have := h.1
  rw [a2 (by omega)]
  exact (h.2 i hi).1
theorem endLC (h : TxC M tx e) (hp : p ≤ e) : f_X7_endOfLetters M 2 (nI p) (nI e) = some (nI (lrE tx e p)) := by
  have he := h.1
  obtain ⟨r1, r2, r3⟩ := lr_run (tx := tx) he p
  have rle := run_le ltQ_e (lr_run (tx := tx) he p) hp
  unfold f_X7_endOfLetters
  have : loop FU (fun a_1 => f_X7_endOfLetters_L2 M 2 (nI e) a_1) (nI p) = some (nI (lrE tx e p)) := by
    refine (lp0 (Q := fun r : Int32 => r = nI (lrE tx e p)) (fun i (_ : Unit) => nI (p + i)) (lrE tx e p - p) (fun _ _ => True) (by omega) () rfl trivial (fun i _ hi _ => ?_) (fun _ _ => ?_)).eq
    · have hq := r2 (p + i) (by omega) (by omega)
      show Tr (f_X7_endOfLetters_L2 M 2 (nI e) (nI (p + i))) _
      have hl : p + i < e := by omega
      unfold f_X7_endOfLetters_L2
      rw [if_neg (by rw [nI_leI (by omega) (by omega)]; omega), h.at hl]
      have : f_X7_isLetter M (tx (p + i)) = true := by
        simp only [ltQ, Bool.and_eq_true] at hq
        exact hq.2
      rw [if_pos this]
      exact Tr.some (Or.inl ⟨(), by rw [l_1, nI_add]; rfl, trivial⟩)
    · show Tr (f_X7_endOfLetters_L2 M 2 (nI e) (nI (p + (lrE tx e p - p)))) _
      rw [show p + (lrE tx e p - p) = lrE tx e p by omega]
      unfold f_X7_endOfLetters_L2
      by_cases c : e ≤ lrE tx e p
      · rw [if_pos (by rw [nI_leI (by omega) (by omega)]; exact c)]
        exact Tr.some ⟨_, rfl, rfl⟩
      · rw [if_neg (by rw [nI_leI (by omega) (by omega)]; exact c), h.at (by omega)]
        have hl : lrE tx e p < e := by omega
        have : ¬ f_X7_isLetter M (tx (lrE tx e p)) = true := fun hh => by
          have r3 := r3
          simp only [ltQ, hl, decide_true, Bool.true_and] at r3
          rw [show ltC (tx (lrE tx e p)) = true from hh] at r3
          cases r3
        rw [if_neg this]
        exact Tr.some ⟨_, rfl, rfl⟩
  rw [this]; rfl
theorem endDC (h : TxC M tx e) (hp : p ≤ e) : f_X7_endOfDigits M 2 (nI p) (nI e) = some (nI (dgE tx e p)) := by
  have he := h.1
  obtain ⟨r1, r2, r3⟩ := dg_run (tx := tx) he p
  have rle := run_le dgQ_e (dg_run (tx := tx) he p) hp
  unfold f_X7_endOfDigits
  have : loop FU (fun a_1 => f_X7_endOfDigits_L2 M 2 (nI e) a_1) (nI p) = some (nI (dgE tx e p)) := by
    refine (lp0 (Q := fun r : Int32 => r = nI (dgE tx e p)) (fun i (_ : Unit) => nI (p + i)) (dgE tx e p - p) (fun _ _ => True) (by omega) () rfl trivial (fun i _ hi _ => ?_) (fun _ _ => ?_)).eq
    · have hq := r2 (p + i) (by omega) (by omega)
      show Tr (f_X7_endOfDigits_L2 M 2 (nI e) (nI (p + i))) _
      have hl : p + i < e := by omega
      unfold f_X7_endOfDigits_L2
      rw [if_neg (by rw [nI_leI (by omega) (by omega)]; omega), h.at hl]
      have : f_X7_isDigit M (tx (p + i)) = true := by
        simp only [dgQ, Bool.and_eq_true] at hq
        exact hq.2
      rw [if_pos this]
      exact Tr.some (Or.inl ⟨(), by rw [l_1, nI_add]; rfl, trivial⟩)
    · show Tr (f_X7_endOfDigits_L2 M 2 (nI e) (nI (p + (dgE tx e p - p)))) _
      rw [show p + (dgE tx e p - p) = dgE tx e p by omega]
      unfold f_X7_endOfDigits_L2
      by_cases c : e ≤ dgE tx e p
      · rw [if_pos (by rw [nI_leI (by omega) (by omega)]; exact c)]
        exact Tr.some ⟨_, rfl, rfl⟩
      · rw [if_neg (by rw [nI_leI (by omega) (by omega)]; exact c), h.at (by omega)]
        have hl : dgE tx e p < e := by omega
        have : ¬ f_X7_isDigit M (tx (dgE tx e p)) = true := fun hh => by
          have r3 := r3
          simp only [dgQ, hl, decide_true, Bool.true_and] at r3
          rw [show dgC (tx (dgE tx e p)) = true from hh] at r3
          cases r3
        rw [if_neg this]
        exact Tr.some ⟨_, rfl, rfl⟩
  rw [this]; rfl
theorem nb_t {c : Prop} [Decidable c] (h : (!(decide c)) = false) : c := by
  cases hd : decide c with
  | true => exact of_decide_eq_true hd
  | false => rw [hd] at h; cases h
theorem nb_f {c : Prop} [Decidable c] (h : (!(decide c)) = true) : ¬ c := fun hc => by
  rw [decide_eq_true hc] at h
  cases h
theorem isSpC (h : TxC M tx e) (hp : p ≤ r) (hr : r ≤ e) {a : Nat} (ha : isT a = true) : f_X7_isSpelled M a 2 (nI p) (nI r) = some (samW tx p r (str a)) := by
  have he := h.1
  obtain ⟨i, hi, rfl⟩ := isT_of ha
  obtain ⟨s1, s2⟩ := strL (M := M) hi
  unfold f_X7_isSpelled samW
  rw [s1, nI_subI hp]
  by_cases c : (str (400 + i)).length = r - p
  · rw [if_pos (by rw [c]), decide_eq_true c, Bool.true_and]
    generalize hL : (str (400 + i)).length = L at s1 s2 c
    have key := lpF (f := fun a_2 => f_X7_isSpelled_L15 M (400 + i) 2 (nI p) a_2) (fun k => !(decide (tx (p + k) = (str (400 + i)).getD k 0))) (fun _ => false) L (by omega) (fun k hk hp2 => by
      have hp2 : (!(decide (tx (p + k) = (str (400 + i)).getD k 0))) = false := hp2
      show f_X7_isSpelled_L15 M (400 + i) 2 (nI p) (nI k) = _
      unfold f_X7_isSpelled_L15
      rw [s1, if_neg (by rw [nI_leI (by omega) (by omega)]; omega), strC hi (by rw [hL]; exact hk), Option.bind_some, nI_add, h.at (by omega), if_pos (nb_t hp2).symm, l_1, nI_add]) (fun k hk hp2 => by
      have hp2 : (!(decide (tx (p + k) = (str (400 + i)).getD k 0))) = true := hp2
      show f_X7_isSpelled_L15 M (400 + i) 2 (nI p) (nI k) = _
      unfold f_X7_isSpelled_L15
      rw [s1, if_neg (by rw [nI_leI (by omega) (by omega)]; omega), strC hi (by rw [hL]; exact hk), Option.bind_some, nI_add, h.at (by omega), if_neg (fun e2 => nb_f hp2 e2.symm)]) (by
      show f_X7_isSpelled_L15 M (400 + i) 2 (nI p) (nI L) = _
      unfold f_X7_isSpelled_L15
      rw [s1, if_pos (by rw [nI_leI (by omega) (by omega)]; omega)])
    have key : loop FU (fun a_2 => f_X7_isSpelled_L15 M (400 + i) 2 (nI p) a_2) 0 = _ := key
    rw [key, Option.bind_some]
    cases hf : fnd (fun k => !(decide (tx (p + k) = (str (400 + i)).getD k 0))) L with
    | none =>
      refine congrArg some (allB_iff.mpr (fun k hk => ?_)).symm
      exact decide_eq_true (nb_t (fnd_none hf hk))
    | some k =>
      obtain ⟨h1, h2⟩ := fnd_ok hf
      refine congrArg some (Bool.eq_false_iff.mpr (fun hc => ?_)).symm
      exact nb_f h2 (of_decide_eq_true (allB_iff.mp hc k h1))
  · rw [if_neg (by rw [nI_eq (by omega) (by omega)]; exact c), decide_eq_false c, Bool.false_and]
theorem spelC (h : TxC M tx e) (hp : p ≤ r) (hr : r ≤ e) : f_X7_spelled M 2 (nI p) (nI r) = some (spl tx p r) := by
  unfold f_X7_spelled spl
  have stp : ∀ j, j < 31 → f_X7_isSpelled M (spq (300 + Int32.toNatClampNeg (nI j))) 2 (nI p) (nI r) = some (samW tx p r (str (spq (300 + j)))) := fun j hj => by
    rw [nI_clamp (by omega)]
    exact isSpC h hp hr (isT_spq (by simp [isW]; omega))
  have key := lpF (f := fun a_4 => f_X7_spelled_L2 M 2 (nI p) (nI r) a_4) (fun j => samW tx p r (str (spq (300 + j)))) (fun j => 300 + j) 31 (by decide) (fun j hj hp2 => by
    have hp2 : samW tx p r (str (spq (300 + j))) = false := hp2
    show f_X7_spelled_L2 M 2 (nI p) (nI r) (nI j) = _
    unfold f_X7_spelled_L2
    rw [if_neg (show ¬ (31 : Int32) ≤ nI j by rw [l_31, nI_leI (by omega) (by omega)]; omega), if_pos (ibs_nI hj (by decide)), stp j hj, Option.bind_some, hp2, if_neg (by decide), l_1, nI_add]) (fun j hj hp2 => by
    have hp2 : samW tx p r (str (spq (300 + j))) = true := hp2
    show f_X7_spelled_L2 M 2 (nI p) (nI r) (nI j) = _
    unfold f_X7_spelled_L2
    rw [if_neg (show ¬ (31 : Int32) ≤ nI j by rw [l_31, nI_leI (by omega) (by omega)]; omega), if_pos (ibs_nI hj (by decide)), stp j hj, Option.bind_some, hp2, if_pos rfl, if_pos (ibs_nI hj (by decide)), nI_clamp (by omega)]) (by
    show f_X7_spelled_L2 M 2 (nI p) (nI r) (nI 31) = _
    unfold f_X7_spelled_L2
    rw [if_pos (by decide)])
  have key : loop FU (fun a_4 => f_X7_spelled_L2 M 2 (nI p) (nI r) a_4) 0 = _ := key
  rw [key, Option.bind_some]
  cases fnd (fun j => samW tx p r (str (spq (300 + j)))) 31 with
  | none => rfl
  | some j => rfl
theorem lt_nat (h : isN (tx i) 255) (hl : ltC (tx i) = true) : tx i = nI (tx i).toNatClampNeg ∧ 97 ≤ (tx i).toNatClampNeg ∧ (tx i).toNatClampNeg ≤ 122 := by
  obtain ⟨h1, h2⟩ := h
  generalize (tx i).toNatClampNeg = z at h1 h2 ⊢
  rw [h1] at hl
  unfold ltC at hl
  refine ⟨h1, ?_⟩
  by_cases c : nI z < 97
  · rw [if_pos c] at hl; cases hl
  · rw [if_neg c] at hl
    rw [show (97 : Int32) = nI 97 from rfl, nI_ltI (by omega) (by omega)] at c
    by_cases d : 122 < nI z
    · rw [if_pos d] at hl; cases hl
    · rw [show (122 : Int32) = nI 122 from rfl, nI_ltI (by omega) (by omega)] at d
      omega
theorem dg_nat (h : isN (tx i) 255) (hl : dgC (tx i) = true) : tx i = nI (tx i).toNatClampNeg ∧ 48 ≤ (tx i).toNatClampNeg ∧ (tx i).toNatClampNeg ≤ 57 := by
  obtain ⟨h1, h2⟩ := h
  generalize (tx i).toNatClampNeg = z at h1 h2 ⊢
  rw [h1] at hl
  unfold dgC at hl
  refine ⟨h1, ?_⟩
  by_cases c : nI z < 48
  · rw [if_pos c] at hl; cases hl
  · rw [if_neg c] at hl
    rw [show (48 : Int32) = nI 48 from rfl, nI_ltI (by omega) (by omega)] at c
    by_cases d : 57 < nI z
    · rw [if_pos d] at hl; cases hl
    · rw [l_57, nI_ltI (by omega) (by omega)] at d
      omega
theorem mkS_succ {k : Nat} : mkS tx p (k + 1) = match mkS tx p k with | none => none | some s => if 6 ≤ (tx (p + k)).toNatClampNeg - 97 ∨ s.testBit ((tx (p + k)).toNatClampNeg - 97) = true then none else some (s ||| 2 ^ ((tx (p + k)).toNatClampNeg - 97)) := rfl
theorem mkS_lt : ∀ k s, mkS tx p k = some s → s < 64 := by
  intro k
  induction k with
  | zero => intro s h; cases h; decide
  | succ k ih =>
    intro s h
    rw [mkS_succ] at h
    cases ho : mkS tx p k with
    | none => rw [ho] at h; cases h
    | some a =>
      have ha := ih a ho
      rw [ho] at h
      have h : (if 6 ≤ (tx (p + k)).toNatClampNeg - 97 ∨ a.testBit ((tx (p + k)).toNatClampNeg - 97) = true then none else some (a ||| 2 ^ ((tx (p + k)).toNatClampNeg - 97))) = some s := h
      by_cases c : 6 ≤ (tx (p + k)).toNatClampNeg - 97 ∨ a.testBit ((tx (p + k)).toNatClampNeg - 97) = true
      · rw [if_pos c] at h; cases h
      · rw [if_neg c] at h
        cases h
        exact Nat.or_lt_two_pow (n := 6) ha (Nat.pow_lt_pow_right (by decide) (by omega))
theorem mkS_none {k : Nat} (h : mkS tx p k = none) : ∀ j, k ≤ j → mkS tx p j = none := by
  intro j
  induction j with
  | zero => intro hj; rw [show k = 0 by omega] at h; exact h
  | succ j ih =>
    intro hj
    by_cases c : k = j + 1
    · rw [← c]; exact h
    · rw [mkS_succ, ih (by omega)]
theorem or_nI {a b : Nat} : nI a ||| nI b = nI (a ||| b) := b_ext (fun i hi => by rw [b_or, bt_nI hi, bt_nI hi, bt_nI hi, Nat.testBit_or])
theorem marksC (h : TxC M tx e) (hp : p ≤ r) (hr : r ≤ e) (hl : ∀ i, p ≤ i → i < r → ltC (tx i) = true) : f_X7_marksOf M 2 (nI p) (nI r) = some (oI (mkS tx p (r - p))) := by
  have he := h.1
  unfold f_X7_marksOf
  have : Tr (loop FU (fun a_2 => f_X7_marksOf_L5 M 2 (nI r) a_2.1 a_2.2) (0, nI p)) (fun x => x = .inl (oI (mkS tx p (r - p))) ∨ x = .inr (oI (mkS tx p (r - p)))) := by
    refine lp0 (fun i (s : Nat) => (nI s, nI (p + i))) (r - p) (fun i s => mkS tx p i = some s) (by omega) 0 rfl rfl (fun k s hk hs => ?_) (fun s hs => ?_)
    · have hlt := mkS_lt k s hs
      have hss := mkS_succ (tx := tx) (p := p) (k := k)
      rw [hs] at hss
      have hss : mkS tx p (k + 1) = if 6 ≤ (tx (p + k)).toNatClampNeg - 97 ∨ s.testBit ((tx (p + k)).toNatClampNeg - 97) = true then none else some (s ||| 2 ^ ((tx (p + k)).toNatClampNeg - 97)) := hss
      obtain ⟨c1, c2, c3⟩ := lt_nat (h.2 (p + k) (by omega)).2 (hl (p + k) (by omega) (by omega))
      show Tr (f_X7_marksOf_L5 M 2 (nI r) (nI s) (nI (p + k))) _
      unfold f_X7_marksOf_L5
      rw [if_neg (by rw [nI_leI (by omega) (by omega)]; omega), h.at (by omega)]
      generalize (tx (p + k)).toNatClampNeg = z at c1 c2 c3 hss
      rw [c1, show (97 : Int32) = nI 97 from rfl, nI_subI c2]
      by_cases d1 : 6 ≤ z - 97
      · rw [if_pos (show (6 : Int32) ≤ nI (z - 97) by rw [l_6, nI_leI (by omega) (by omega)]; exact d1)]
        rw [if_pos (Or.inl d1)] at hss
        exact Tr.some (Or.inr ⟨_, rfl, Or.inl (by rw [mkS_none hss (r - p) (by omega)]; rfl)⟩)
      · have ht := bt_tst (x := nI s) (v := z - 97) (by omega)
        rw [bt_nI (by omega)] at ht
        rw [if_neg (show ¬ (6 : Int32) ≤ nI (z - 97) by rw [l_6, nI_leI (by omega) (by omega)]; exact d1)]
        by_cases d2 : s.testBit (z - 97) = true
        · rw [if_pos (show ((nI s >>> (nI (z - 97) &&& 31)) &&& 1 = 1) from ht.mpr d2)]
          rw [if_pos (Or.inr d2)] at hss
          exact Tr.some (Or.inr ⟨_, rfl, Or.inl (by rw [mkS_none hss (r - p) (by omega)]; rfl)⟩)
        · rw [if_neg (show ¬ ((nI s >>> (nI (z - 97) &&& 31)) &&& 1 = 1) from fun e2 => d2 (ht.mp e2)), show (1 : Int32) <<< (nI (z - 97) &&& 31) = nI (2 ^ (z - 97)) from b1_pow _ (by omega), or_nI, Option.bind_some]
          rw [if_neg (fun e2 => by rcases e2 with e2 | e2; exact d1 e2; exact d2 e2)] at hss
          exact Tr.some (Or.inl ⟨_, by rw [l_1, nI_add]; rfl, hss⟩)
    · show Tr (f_X7_marksOf_L5 M 2 (nI r) (nI s) (nI (p + (r - p)))) _
      unfold f_X7_marksOf_L5
      rw [if_pos (by rw [nI_leI (by omega) (by omega)]; omega)]
      exact Tr.some ⟨_, rfl, Or.inr (by rw [hs]; rfl)⟩
  obtain ⟨x, x1, x2⟩ := this
  rw [x1, Option.bind_some]
  rcases x2 with rfl | rfl
  · rfl
  · rfl
theorem nuN_succ {k : Nat} : nuN tx p (k + 1) = nuN tx p k * 10 + ((tx (p + k)).toNatClampNeg - 48) := rfl
theorem nuN_lt (h : ∀ i, p ≤ i → i < r → (tx i).toNatClampNeg - 48 ≤ 9) : ∀ k, p + k ≤ r → nuN tx p k < 10 ^ k := by
  intro k
  induction k with
  | zero => intro _; exact (by decide : 0 < 10 ^ 0)
  | succ k ih =>
    intro hk
    have h1 := ih (by omega)
    have h2 := h (p + k) (by omega) (by omega)
    rw [nuN_succ, Nat.pow_succ]
    omega
theorem numC (h : TxC M tx e) (hp : p ≤ r) (hr : r ≤ e) (hl : ∀ i, p ≤ i → i < r → dgC (tx i) = true) : f_X7_numberOf M 2 (nI p) (nI r) = some (nI (nuV tx p r)) := by
  have he := h.1
  unfold f_X7_numberOf nuV
  rw [nI_subI hp]
  by_cases c : r - p ≤ 3
  · rw [if_pos (show nI (r - p) ≤ 3 by rw [l_3, nI_leI (by omega) (by omega)]; exact c), if_pos c]
    have hb := nuN_lt (tx := tx) (p := p) (r := r) (fun i h1 h2 => by
      have := dg_nat (h.2 i (by omega)).2 (hl i h1 h2)
      omega)
    have h10 : ∀ k, k ≤ 3 → 10 ^ k ≤ 10 ^ 3 := fun k hk => Nat.pow_le_pow_right (by decide) hk
    have : loop FU (fun a_2 => f_X7_numberOf_L16 M 2 (nI r) a_2.1 a_2.2) (0, nI p) = some (nI (nuN tx p (r - p))) := by
      refine (lp0 (Q := fun x : Int32 => x = nI (nuN tx p (r - p))) (fun i (s : Nat) => (nI s, nI (p + i))) (r - p) (fun i s => s = nuN tx p i) (by omega) 0 rfl rfl (fun k s hk hs => ?_) (fun s hs => ?_)).eq
      · subst hs
        have hlt := hb k (by omega)
        have h10 : (10 : Nat) ^ k ≤ 1000 := h10 k (by omega)
        obtain ⟨c1, c2, c3⟩ := dg_nat (h.2 (p + k) (by omega)).2 (hl (p + k) (by omega) (by omega))
        show Tr (f_X7_numberOf_L16 M 2 (nI r) (nI (nuN tx p k)) (nI (p + k))) _
        unfold f_X7_numberOf_L16
        rw [if_neg (by rw [nI_leI (by omega) (by omega)]; omega), h.at (by omega), nuN_succ]
        generalize (tx (p + k)).toNatClampNeg = z at c1 c2 c3
        rw [c1, l_10, nI_mulI, nI_add, show (48 : Int32) = nI 48 from rfl, nI_subI (by omega), Option.bind_some]
        exact Tr.some (Or.inl ⟨_, by rw [l_1, nI_add]; rfl, by omega⟩)
      · subst hs
        show Tr (f_X7_numberOf_L16 M 2 (nI r) (nI (nuN tx p (r - p))) (nI (p + (r - p)))) _
        unfold f_X7_numberOf_L16
        rw [if_pos (by rw [nI_leI (by omega) (by omega)]; omega)]
        exact Tr.some ⟨_, rfl, rfl⟩
    rw [this]; rfl
  · rw [if_neg (show ¬ nI (r - p) ≤ 3 by rw [l_3, nI_leI (by omega) (by omega)]; exact c), if_neg c]; rfl
end OPEN
