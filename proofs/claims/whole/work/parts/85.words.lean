/-! the reference and the class see the same words -/
section WORDS
variable {M N : Mm} {e p r i j k n a : Nat} {q : Nat → Bool} {tx tx2 : Nat → Int32} {x y v b lo hi : Int32} {w : Nat}
def sw1 (j : Nat) : List Int32 := str (spq (300 + j))
theorem w_len : ∀ j, j < 31 → (j < 22 → 2 ≤ (sw1 j).length) ∧ (22 ≤ j → j < 28 → (sw1 j).length = 1 ∧ ltC ((sw1 j).getD 0 0) = false ∧ dgC ((sw1 j).getD 0 0) = false) ∧ (28 ≤ j → (sw1 j).length = 0) := by decide +kernel
theorem w_uq : ∀ j, j < 28 → ∀ k, k < 28 → sw1 j = sw1 k → j = k := by decide +kernel
theorem samW_iff {s : List Int32} : (samW tx p r s = true) ↔ s.length = r - p ∧ ∀ k, k < s.length → tx (p + k) = s.getD k 0 := by
  unfold samW
  rw [Bool.and_eq_true, allB_iff]
  refine ⟨fun h => ⟨of_decide_eq_true h.1, fun k hk => of_decide_eq_true (h.2 k hk)⟩, fun h => ⟨decide_eq_true h.1, fun k hk => decide_eq_true (h.2 k hk)⟩⟩
theorem samW_uq {s t : List Int32} (h : samW tx p r s = true) (h2 : samW tx p r t = true) : s = t := by
  obtain ⟨a1, a2⟩ := samW_iff.mp h
  obtain ⟨b1, b2⟩ := samW_iff.mp h2
  refine List.ext_getElem (by omega) (fun k h3 h4 => ?_)
  have e1 := a2 k h3
  have e2 := b2 k h4
  have f1 : s.getD k 0 = s[k] := by simp [List.getD_eq_getElem?_getD, h3]
  have f2 : t.getD k 0 = t[k] := by simp [List.getD_eq_getElem?_getD, h4]
  rw [← f1, ← f2, ← e1, ← e2]
theorem spl_eq (hj : j < 28) (h : samW tx p r (sw1 j) = true) : spl tx p r = 300 + j := by
  have hl := (samW_iff.mp h).1
  unfold spl
  cases hf : fnd (fun j => samW tx p r (str (spq (300 + j)))) 31 with
  | none =>
    have := fnd_none hf (show j < 31 by omega)
    rw [show samW tx p r (str (spq (300 + j))) = true from h] at this
    cases this
  | some k =>
    obtain ⟨k1, k2⟩ := fnd_ok hf
    have k2 : samW tx p r (sw1 k) = true := k2
    have hk := (samW_iff.mp k2).1
    have lk := w_len k k1
    have lj := w_len j (by omega)
    have : k < 28 := by
      refine Classical.byContradiction (fun hc => ?_)
      have := lk.2.2 (by omega)
      by_cases c : j < 22
      · have := lj.1 c; omega
      · have := (lj.2.1 (by omega) hj).1; omega
    show 300 + k = 300 + j
    rw [w_uq k this j hj (samW_uq k2 h)]
theorem spl_inv (hj : j < 31) (h29 : j ≠ 29) (h : spl tx p r = 300 + j) : samW tx p r (sw1 j) = true := by
  unfold spl at h
  cases hf : fnd (fun j => samW tx p r (str (spq (300 + j)))) 31 with
  | none => rw [hf] at h; have h : 329 = 300 + j := h; omega
  | some k =>
    rw [hf] at h
    have h : 300 + k = 300 + j := h
    have : k = j := by omega
    subst this
    exact (fnd_ok hf).2
theorem spl_329 (hj : j < 28) (h : spl tx p r = 329) : samW tx p r (sw1 j) = false := by
  rw [Bool.eq_false_iff]
  intro hc
  rw [spl_eq hj hc] at h
  omega
theorem spl_n328 (hp : p < r) : spl tx p r ≠ 328 ∧ spl tx p r ≠ 330 := by
  refine ⟨fun h => ?_, fun h => ?_⟩
  · have := (samW_iff.mp (spl_inv (j := 28) (by decide) (by decide) h)).1
    have := (w_len 28 (by decide)).2.2 (by decide)
    omega
  · have := (samW_iff.mp (spl_inv (j := 30) (by decide) (by decide) h)).1
    have := (w_len 30 (by decide)).2.2 (by decide)
    omega
theorem lr_no (he : e ≤ 400) (h : ltQ tx e p = false) : lrE tx e p = p := run_uq (lr_run he p) ⟨Nat.le_refl _, fun i h1 h2 => absurd h1 (Nat.not_le_of_lt h2), h⟩
theorem dg_no (he : e ≤ 400) (h : dgQ tx e p = false) : dgE tx e p = p := run_uq (dg_run he p) ⟨Nat.le_refl _, fun i h1 h2 => absurd h1 (Nat.not_le_of_lt h2), h⟩
/-- what stands at a place -/
theorem wd_cases (he : e ≤ 400) (p : Nat) : (e ≤ p ∧ wdP tx e p = 330 ∧ vlP tx e p = -1 ∧ tkE tx e p = p ∧ lrE tx e p = p) ∨ (p < e ∧ ltC (tx p) = true ∧ p < lrE tx e p ∧ wdP tx e p = spl tx p (lrE tx e p) ∧ vlP tx e p = oI (mkS tx p (lrE tx e p - p)) ∧ tkE tx e p = lrE tx e p) ∨ (p < e ∧ ltC (tx p) = false ∧ dgC (tx p) = true ∧ wdP tx e p = 328 ∧ vlP tx e p = nI (nuV tx p (dgE tx e p)) ∧ tkE tx e p = dgE tx e p ∧ lrE tx e p = p) ∨ (p < e ∧ ltC (tx p) = false ∧ dgC (tx p) = false ∧ wdP tx e p = spl tx p (p + 1) ∧ vlP tx e p = -1 ∧ tkE tx e p = p + 1 ∧ lrE tx e p = p) := by
  unfold wdP vlP tkE
  by_cases c : e ≤ p
  · rw [if_pos c, if_pos c, if_pos c]
    exact Or.inl ⟨c, rfl, rfl, rfl, lr_no he (ltQ_e p c)⟩
  · rw [if_neg c, if_neg c, if_neg c]
    have pe : p < e := by omega
    by_cases d : ltC (tx p) = true
    · rw [if_pos d, if_pos d, if_pos d]
      exact Or.inr (Or.inl ⟨pe, d, run_lt (lr_run he p) (by simp [ltQ, pe, d]), rfl, rfl, rfl⟩)
    · rw [if_neg d, if_neg d, if_neg d]
      have d2 : ltC (tx p) = false := by simpa using d
      have hl : lrE tx e p = p := lr_no he (by simp [ltQ, d2])
      by_cases f : dgC (tx p) = true
      · rw [if_pos f, if_pos f, if_pos f]
        exact Or.inr (Or.inr (Or.inl ⟨pe, d2, f, rfl, rfl, rfl, hl⟩))
      · rw [if_neg f, if_neg f, if_neg f]
        exact Or.inr (Or.inr (Or.inr ⟨pe, d2, by simpa using f, rfl, rfl, rfl, hl⟩))
/-- a word of letters -/
theorem wd_let (he : e ≤ 400) (hj : j < 22) (p : Nat) : (samW tx p (lrE tx e p) (sw1 j) = true) ↔ wdP tx e p = 300 + j := by
  have hl := (w_len j (by omega)).1 hj
  have no : lrE tx e p = p → ¬ samW tx p (lrE tx e p) (sw1 j) = true := fun h hs => by
    have := (samW_iff.mp hs).1
    rw [h] at this
    omega
  rcases wd_cases (tx := tx) he p with ⟨c1, c2, c3, c4, c5⟩ | ⟨c1, c2, c3, c4, c5, c6⟩ | ⟨c1, c2, c3, c4, c5, c6, c7⟩ | ⟨c1, c2, c3, c4, c5, c6, c7⟩
  · exact ⟨fun h => absurd h (no c5), fun h => by rw [c2] at h; omega⟩
  · rw [c4]
    exact ⟨fun h => spl_eq (by omega) h, fun h => spl_inv (by omega) (by omega) h⟩
  · exact ⟨fun h => absurd h (no c7), fun h => by rw [c4] at h; omega⟩
  · refine ⟨fun h => absurd h (no c7), fun h => ?_⟩
    rw [c4] at h
    have := (samW_iff.mp (spl_inv (by omega) (by omega) h)).1
    omega
/-- a sign -/
theorem wd_sgn (he : e ≤ 400) (hj : 22 ≤ j) (hj2 : j < 28) (p : Nat) : (p < e ∧ tx p = (sw1 j).getD 0 0) ↔ wdP tx e p = 300 + j := by
  obtain ⟨l1, l2, l3⟩ := (w_len j (by omega)).2.1 hj hj2
  rcases wd_cases (tx := tx) he p with ⟨c1, c2, c3, c4, c5⟩ | ⟨c1, c2, c3, c4, c5, c6⟩ | ⟨c1, c2, c3, c4, c5, c6, c7⟩ | ⟨c1, c2, c3, c4, c5, c6, c7⟩
  · exact ⟨fun h => by omega, fun h => by rw [c2] at h; omega⟩
  · refine ⟨fun h => ?_, fun h => ?_⟩
    · rw [h.2, l2] at c2; cases c2
    · rw [c4] at h
      have := samW_iff.mp (spl_inv (by omega) (by omega) h)
      have e1 := this.2 0 (by omega)
      rw [Nat.add_zero] at e1
      rw [e1, l2] at c2; cases c2
  · refine ⟨fun h => ?_, fun h => by rw [c4] at h; omega⟩
    rw [h.2, l3] at c3; cases c3
  · rw [c4]
    refine ⟨fun h => spl_eq hj2 (samW_iff.mpr ⟨by omega, fun k hk => ?_⟩), fun h => ⟨c1, ?_⟩⟩
    · rw [show k = 0 by omega]; exact h.2
    · have := (samW_iff.mp (spl_inv (by omega) (by omega) h)).2 0 (by omega)
      exact this
def mkT (z : Int32) (o : Option Nat) : Option Nat := match o with | none => none | some s => if 6 ≤ z.toNatClampNeg - 97 ∨ s.testBit (z.toNatClampNeg - 97) = true then none else some (s ||| 2 ^ (z.toNatClampNeg - 97))
theorem mkS_T : mkS tx p (k + 1) = mkT (tx (p + k)) (mkS tx p k) := rfl
theorem mkS_cg : ∀ k, (∀ i, i < k → tx (p + i) = tx2 i) → mkS tx p k = mkS tx2 0 k := by
  intro k
  induction k with
  | zero =>
    intro _
    have a : mkS tx p 0 = some 0 := rfl
    have b : mkS tx2 0 0 = some 0 := rfl
    rw [a, b]
  | succ k ih =>
    intro h
    have e1 := ih (fun i hi => h i (by omega))
    have e2 := h k (by omega)
    have e3 : 0 + k = k := Nat.zero_add k
    refine mkS_T.trans (Eq.trans ?_ mkS_T.symm)
    rw [e1, e2, e3]
theorem mk_words : ∀ j, j < 22 → mkS (fun i => (sw1 j).getD i 0) 0 (sw1 j).length = none := by decide +kernel
theorem mk_spl (hl : ltC (tx p) = true) (hp : p < r) (h : mkS tx p (r - p) ≠ none) : spl tx p r = 329 := by
  refine Classical.byContradiction (fun hc => ?_)
  have hn := spl_n328 (tx := tx) hp
  have hw := isW_spl (tx := tx) (p := p) (r := r)
  obtain ⟨j, j1, j2⟩ := isW_of hw
  have j29 : j ≠ 29 := fun e2 => hc (by rw [j2, e2])
  have hs := spl_inv j1 j29 j2
  obtain ⟨s1, s2⟩ := samW_iff.mp hs
  by_cases c : j < 22
  · refine h ?_
    rw [← s1, mkS_cg (tx2 := fun i => (sw1 j).getD i 0) _ (fun i hi => s2 i hi)]
    exact mk_words j c
  · have : j < 28 := by omega
    obtain ⟨l1, l2, l3⟩ := (w_len j (by omega)).2.1 (by omega) this
    have e1 := s2 0 (by omega)
    rw [Nat.add_zero] at e1
    rw [e1, l2] at hl; cases hl
/-- the marks of a word -/
theorem wd_mks (he : e ≤ 400) (p : Nat) : (p < e ∧ ltC (tx p) = true ∧ mkS tx p (lrE tx e p - p) ≠ none) ↔ wdP tx e p = 329 ∧ vlP tx e p ≠ -1 := by
  rcases wd_cases (tx := tx) he p with ⟨c1, c2, c3, c4, c5⟩ | ⟨c1, c2, c3, c4, c5, c6⟩ | ⟨c1, c2, c3, c4, c5, c6, c7⟩ | ⟨c1, c2, c3, c4, c5, c6, c7⟩
  · exact ⟨fun h => by omega, fun h => by rw [c2] at h; omega⟩
  · rw [c4, c5]
    have hlt := mkS_lt (tx := tx) (p := p) (lrE tx e p - p)
    refine ⟨fun h => ⟨mk_spl c2 c3 h.2.2, ?_⟩, fun h => ⟨c1, c2, fun h2 => ?_⟩⟩
    · cases hm : mkS tx p (lrE tx e p - p) with
      | none => exact absurd hm h.2.2
      | some s =>
        have := hlt s hm
        exact fun e3 => by rw [oI, nI_ne_m1 (by omega)] at e3; exact e3
    · rw [h2] at h
      exact h.2 rfl
  · exact ⟨fun h => by rw [h.2.1] at c2; exact (nomatch c2), fun h => by rw [c4] at h; omega⟩
  · exact ⟨fun h => by rw [h.2.1] at c2; exact (nomatch c2), fun h => absurd c5 h.2⟩
/-- a number -/
theorem wd_num (he : e ≤ 400) (p : Nat) : (p < e ∧ ltC (tx p) = false ∧ dgC (tx p) = true ∧ ¬ nI (nuV tx p (dgE tx e p)) < lo ∧ ¬ hi < nI (nuV tx p (dgE tx e p))) ↔ wdP tx e p = 328 ∧ ¬ vlP tx e p < lo ∧ ¬ hi < vlP tx e p := by
  rcases wd_cases (tx := tx) he p with ⟨c1, c2, c3, c4, c5⟩ | ⟨c1, c2, c3, c4, c5, c6⟩ | ⟨c1, c2, c3, c4, c5, c6, c7⟩ | ⟨c1, c2, c3, c4, c5, c6, c7⟩
  · exact ⟨fun h => by omega, fun h => by rw [c2] at h; omega⟩
  · refine ⟨fun h => by rw [h.2.1] at c2; exact (nomatch c2), fun h => ?_⟩
    rw [c4] at h
    exact absurd h.1 (spl_n328 c3).1
  · rw [c5]
    exact ⟨fun h => ⟨c4, h.2.2.2⟩, fun h => ⟨c1, c2, c3, h.2⟩⟩
  · refine ⟨fun h => by rw [h.2.2.1] at c3; exact (nomatch c3), fun h => ?_⟩
    rw [c4] at h
    exact absurd h.1 (spl_n328 (by omega)).1
/-! by words -/
def AtR (M : Mm) (tx : Nat → Int32) (e i : Nat) : Prop := ∃ a, M.1 109 11 = nI a ∧ a ≤ e ∧ sk tx e a = bg tx e i
theorem AtR.of (he : e ≤ 400) (ha : a ≤ e) (h : sk tx e a = bg tx e i) : AtR (sAt M a) tx e i := ⟨a, at_sAt, ha, h⟩
theorem sk_next (h : tkE tx e (bg tx e i) = a) : sk tx e a = bg tx e (i + 1) := by
  rw [← h]; rfl
theorem placeT (h : TxR M tx e) (ha : AtR M tx e i) : f_X10_skip M = some (sAt M (bg tx e i)) ∧ AtR (sAt M (bg tx e i)) tx e i := by
  obtain ⟨a, a1, a2, a3⟩ := ha
  exact ⟨by rw [skipR h a1 a2, a3], AtR.of h.1 (bg_le h.1 i) (sk_bg h.1 i)⟩
theorem saysT (h : TxR M tx e) (ha : AtR M tx e i) (hj : j < 22) {q : Nat} (hq : isT q = true) (hs : str q = sw1 j) : ∃ a, a ≤ e ∧ f_X10_says M q = some (decide (wdT tx e i = 300 + j), sAt M a) ∧ AtR (sAt M a) tx e (if wdT tx e i = 300 + j then i + 1 else i) ∧ (wdT tx e i ≠ 300 + j → a = bg tx e i) := by
  have he := h.1
  obtain ⟨a, a1, a2, a3⟩ := ha
  have hb := bg_le (tx := tx) he i
  have key := saysR h a1 a2 hq
  rw [a3, hs] at key
  have hw := wd_let (tx := tx) he hj (bg tx e i)
  by_cases c : wdT tx e i = 300 + j
  · rw [if_pos c, decide_eq_true c]
    have c2 := hw.mpr c
    rw [c2, if_pos rfl] at key
    have htk : tkE tx e (bg tx e i) = lrE tx e (bg tx e i) := by
      have hl := (w_len j (by omega)).1 hj
      have hsm := (samW_iff.mp c2).1
      rcases wd_cases (tx := tx) he (bg tx e i) with ⟨d1, d2, d3, d4, d5⟩ | ⟨d1, d2, d3, d4, d5, d6⟩ | ⟨d1, d2, d3, d4, d5, d6, d7⟩ | ⟨d1, d2, d3, d4, d5, d6, d7⟩
      · omega
      · exact d6
      · omega
      · omega
    have hle := tkE_le (tx := tx) he hb
    rw [htk] at hle
    exact ⟨_, hle, key, AtR.of he hle (sk_next htk), fun hc => absurd c hc⟩
  · rw [if_neg c, decide_eq_false c]
    have c2 : samW tx (bg tx e i) (lrE tx e (bg tx e i)) (sw1 j) = false := by
      rw [Bool.eq_false_iff]
      exact fun hc => c (hw.mp hc)
    rw [c2, if_neg (by decide)] at key
    exact ⟨_, hb, key, AtR.of he hb (sk_bg he i), fun _ => rfl⟩
theorem signT (h : TxR M tx e) (ha : AtR M tx e i) (hj : 22 ≤ j) (hj2 : j < 28) {c : Int32} (hc : c = (sw1 j).getD 0 0) : f_X10_isSign M c = some (decide (wdT tx e i = 300 + j), sAt M (bg tx e i)) ∧ AtR (sAt M (bg tx e i)) tx e i ∧ (wdT tx e i = 300 + j → bg tx e i < e ∧ AtR (sAt M (bg tx e i + 1)) tx e (i + 1)) := by
  have he := h.1
  obtain ⟨a, a1, a2, a3⟩ := ha
  have hb := bg_le (tx := tx) he i
  have hw := wd_sgn (tx := tx) he hj hj2 (bg tx e i)
  refine ⟨?_, AtR.of he hb (sk_bg he i), fun hwd => ?_⟩
  · rw [signR h a1 a2 c, a3]
    by_cases d : wdT tx e i = 300 + j
    · obtain ⟨d1, d2⟩ := hw.mpr d
      rw [decide_eq_true d, decide_eq_true d1, decide_eq_true (d2.trans hc.symm)]; rfl
    · rw [decide_eq_false d]
      have : (decide (bg tx e i < e) && decide (tx (bg tx e i) = c)) = false := by
        rw [Bool.eq_false_iff, Ne, Bool.and_eq_true]
        exact fun hh => d (hw.mp ⟨of_decide_eq_true hh.1, (of_decide_eq_true hh.2).trans hc⟩)
      rw [this]
  · obtain ⟨d1, d2⟩ := hw.mpr hwd
    obtain ⟨l1, l2, l3⟩ := (w_len j (by omega)).2.1 hj hj2
    have htk : tkE tx e (bg tx e i) = bg tx e i + 1 := by
      unfold tkE
      rw [if_neg (by omega), d2, l2, if_neg (by decide), l3, if_neg (by decide)]
    exact ⟨d1, AtR.of he (by omega) (sk_next htk)⟩
theorem figT (h : TxR M tx e) (hf : M.1 109 12 = -1) (ha : AtR M tx e i) (hhi : hi < nI 1000) : ((wdT tx e i = 328 ∧ ¬ vl tx e i < lo ∧ ¬ hi < vl tx e i) → ∃ a, a ≤ e ∧ f_X10_figures M lo hi = some (vl tx e i, sAt M a) ∧ AtR (sAt M a) tx e (i + 1)) ∧ (¬ (wdT tx e i = 328 ∧ ¬ vl tx e i < lo ∧ ¬ hi < vl tx e i) → ∃ x a, a ≤ e ∧ f_X10_figures M lo hi = some (x, sI (sAt M a) 109 12 (nI (bg tx e i)))) := by
  have he := h.1
  obtain ⟨a, a1, a2, a3⟩ := ha
  have hb := bg_le (tx := tx) he i
  have hw := wd_num (tx := tx) (lo := lo) (hi := hi) he (bg tx e i)
  obtain ⟨k1, k2⟩ := figR (lo := lo) h hf a1 a2 a3 hhi
  refine ⟨fun hh => ?_, fun hh => ?_⟩
  · have hh2 := hw.mpr hh
    have k1 := k1 hh2
    rcases wd_cases (tx := tx) he (bg tx e i) with ⟨d1, d2, d3, d4, d5⟩ | ⟨d1, d2, d3, d4, d5, d6⟩ | ⟨d1, d2, d3, d4, d5, d6, d7⟩ | ⟨d1, d2, d3, d4, d5, d6, d7⟩
    · omega
    · rw [hh2.2.1] at d2; cases d2
    · have hle := tkE_le (tx := tx) he hb
      rw [d6] at hle
      refine ⟨_, hle, ?_, AtR.of he hle (sk_next d6)⟩
      rw [k1, ← d5]; rfl
    · rw [hh2.2.2.1] at d3; cases d3
  · exact k2 (fun hc => hh (hw.mp hc))
/-- a word of marks is read -/
theorem marksT (h : TxR M tx e) (hf : M.1 109 12 = -1) (ha : AtR M tx e i) : ((wdT tx e i = 329 ∧ vl tx e i ≠ -1) → ∃ a s, a ≤ e ∧ s < 64 ∧ vl tx e i = nI s ∧ f_X10_marks M = some (vl tx e i, sAt M a) ∧ AtR (sAt M a) tx e (i + 1)) ∧ (¬ (wdT tx e i = 329 ∧ vl tx e i ≠ -1) → ∃ x a, a ≤ e ∧ f_X10_marks M = some (x, sI (sAt M a) 109 12 (nI (bg tx e i)))) := by
  have he := h.1
  have hb := bg_le (tx := tx) he i
  obtain ⟨hsk, hat⟩ := placeT h ha
  have hw := wd_mks (tx := tx) he (bg tx e i)
  have hcs := wd_cases (tx := tx) he (bg tx e i)
  have hsn := fun (a : Nat) (hh : tkE tx e (bg tx e i) = a) => sk_next (tx := tx) (e := e) (i := i) hh
  have evl : vl tx e i = vlP tx e (bg tx e i) := rfl
  have ewd : wdT tx e i = wdP tx e (bg tx e i) := rfl
  rw [evl, ewd]
  generalize bg tx e i = p at hb hsk hw hcs hsn ⊢
  obtain ⟨r1, r2, r3⟩ := lr_run (tx := tx) he p
  have rle := run_le ltQ_e (lr_run (tx := tx) he p) hb
  have hall : ∀ i, p ≤ i → i < lrE tx e p → ltC (tx i) = true := fun i h1 h2 => by
    have := r2 i h1 h2
    simp only [ltQ, Bool.and_eq_true] at this
    exact this.2
  have g10 : ∀ c, gI (sAt M c) 109 10 = nI e := fun c => (sAt_ne (by decide)).trans h.2.1
  have g11 : ∀ c, gI (sAt M c) 109 11 = nI c := fun c => at_sAt
  have hL : Tr (loop FU (fun a_7 => f_X10_marks_L9 a_7.1 (nI p) a_7.2.1 a_7.2.2) (sAt M p, 0, 1)) (fun z => z.1 = sAt M (lrE tx e p) ∧ ((∃ s, mkS tx p (lrE tx e p - p) = some s ∧ z.2 = (nI s, 1)) ∨ (mkS tx p (lrE tx e p - p) = none ∧ z.2.2 = 0))) := by
    refine lp0 (fun k (s : Int32 × Int32) => (sAt M (p + k), s.1, s.2)) (lrE tx e p - p) (fun k s => (∃ z, mkS tx p k = some z ∧ s = (nI z, 1)) ∨ (mkS tx p k = none ∧ s.2 = 0)) (by omega) (0, 1) rfl (Or.inl ⟨0, rfl, rfl⟩) (fun k s hk hP => ?_) (fun s hP => ?_)
    · have hq := hall (p + k) (by omega) (by omega)
      obtain ⟨c1, c2, c3⟩ := lt_nat (h.2.2.2 (p + k) (by omega)) hq
      obtain ⟨s1, s2⟩ := s
      show Tr (f_X10_marks_L9 (sAt M (p + k)) (nI p) s1 s2) _
      have J : ∀ u t0, f_X10_marks_J9_88 (sAt M (p + k)) (nI p) u t0 = some (.inl (sAt M (p + (k + 1)), u, t0)) := fun u t0 => by
        unfold f_X10_marks_J9_88
        rw [g11, l_1, nI_add, Option.bind_some]
        exact congrArg (fun z => some (Sum.inl (z, u, t0))) sI_sI
      have hmk := mkS_succ (tx := tx) (p := p) (k := k)
      unfold f_X10_marks_L9 f_X10_marks_J9_75 f_X10_marks_J9_76
      rw [g10, g11, if_neg (by rw [nI_leI (by omega) (by omega)]; omega), letR h.at (by omega), Option.bind_some, if_pos (show f_X10_isIn (sAt M (p + k)) (tx (p + k)) 97 122 = true from hq), Option.bind_some, if_pos rfl, J, if_neg (show ¬ (1 : Int32) = 0 by decide)]
      generalize (tx (p + k)).toNatClampNeg = z at c1 c2 c3 hmk
      rw [c1, show (97 : Int32) = nI 97 from rfl, nI_subI c2]
      rcases hP with ⟨s, hs, he2⟩ | ⟨hs, he2⟩
      · cases he2
        have hlt := mkS_lt k s hs
        rw [hs] at hmk
        have hmk : mkS tx p (k + 1) = if 6 ≤ z - 97 ∨ s.testBit (z - 97) = true then none else some (s ||| 2 ^ (z - 97)) := hmk
        rw [if_neg (show ¬ (1 : Int32) = 0 by decide)]
        by_cases d1 : 6 ≤ z - 97
        · rw [if_pos (show (6 : Int32) ≤ nI (z - 97) by rw [l_6, nI_leI (by omega) (by omega)]; exact d1)]
          rw [if_pos (Or.inl d1)] at hmk
          exact Tr.some (Or.inl ⟨(nI s, 0), rfl, Or.inr ⟨hmk, rfl⟩⟩)
        · rw [if_neg (show ¬ (6 : Int32) ≤ nI (z - 97) by rw [l_6, nI_leI (by omega) (by omega)]; exact d1)]
          have hio : (f_X10_isOf (sAt M (p + k)) (nI s) (nI (z - 97)) = true) = (s.testBit (z - 97) = true) := by rw [isOfE (by omega), bt_nI (by omega)]
          by_cases d2 : s.testBit (z - 97) = true
          · rw [if_pos (by rw [hio]; exact d2)]
            rw [if_pos (Or.inr d2)] at hmk
            exact Tr.some (Or.inl ⟨(nI s, 0), rfl, Or.inr ⟨hmk, rfl⟩⟩)
          · rw [if_neg (by rw [hio]; exact d2), show (1 : Int32) <<< (nI (z - 97) &&& 31) = nI (2 ^ (z - 97)) from b1_pow _ (by omega), or_nI, Option.bind_some, J]
            rw [if_neg (fun e2 => by rcases e2 with e2 | e2; exact d1 e2; exact d2 e2)] at hmk
            exact Tr.some (Or.inl ⟨(nI (s ||| 2 ^ (z - 97)), 1), rfl, Or.inl ⟨_, hmk, rfl⟩⟩)
      · have he2 : s2 = 0 := he2
        rw [hs] at hmk
        rw [if_pos he2]
        exact Tr.some (Or.inl ⟨(s1, 0), rfl, Or.inr ⟨hmk, rfl⟩⟩)
    · obtain ⟨s1, s2⟩ := s
      show Tr (f_X10_marks_L9 (sAt M (p + (lrE tx e p - p))) (nI p) s1 s2) _
      rw [show p + (lrE tx e p - p) = lrE tx e p by omega]
      unfold f_X10_marks_L9
      rw [g10, g11]
      by_cases c : e ≤ lrE tx e p
      · rw [if_pos (by rw [nI_leI (by omega) (by omega)]; exact c)]
        exact Tr.some ⟨_, rfl, rfl, hP⟩
      · have hl : lrE tx e p < e := by omega
        rw [if_neg (by rw [nI_leI (by omega) (by omega)]; exact c), letR h.at hl, Option.bind_some]
        have : ¬ f_X10_isIn (sAt M (lrE tx e p)) (tx (lrE tx e p)) 97 122 = true := fun hh => by
          have r3 := r3
          simp only [ltQ, hl, decide_true, Bool.true_and] at r3
          rw [show ltC (tx (lrE tx e p)) = true from hh] at r3
          cases r3
        rw [if_neg this]
        exact Tr.some ⟨_, rfl, rfl, hP⟩
  obtain ⟨z, z1, z2, z3⟩ := hL
  have g12 : ∀ c, (sAt M c).1 109 12 = -1 := fun c => (sAt_ne (by decide)).trans hf
  have J : ∀ v, f_X10_marks_J113 z.1 (nI p) v = some (v, sI (sAt M (lrE tx e p)) 109 12 (nI p)) := fun v => by
    unfold f_X10_marks_J113
    rw [z2, wrongR (g12 _), Option.bind_some]
  have body : f_X10_marks M = if z.2.2 = 0 then some (z.2.1, sI (sAt M (lrE tx e p)) 109 12 (nI p)) else if nI (lrE tx e p) = nI p then some (z.2.1, sI (sAt M (lrE tx e p)) 109 12 (nI p)) else some (z.2.1, sAt M (lrE tx e p)) := by
    unfold f_X10_marks f_X10_place
    rw [hsk, Option.bind_some, g11, Option.bind_some, z1, Option.bind_some, J, z2, g11]
  refine ⟨fun hh => ?_, fun hh => ?_⟩
  · obtain ⟨d1, d2, d3⟩ := hw.mpr hh
    rcases hcs with ⟨f1, f2, f3, f4, f5⟩ | ⟨f1, f2, f3, f4, f5, f6⟩ | ⟨f1, f2, f3, f4, f5, f6, f7⟩ | ⟨f1, f2, f3, f4, f5, f6, f7⟩
    · omega
    · rcases z3 with ⟨s, s1, s2⟩ | ⟨s1, s2⟩
      · have hs := mkS_lt _ s s1
        have ev : vlP tx e p = nI s := by rw [f5, s1]; rfl
        refine ⟨lrE tx e p, s, rle, hs, ev, ?_, AtR.of he rle (hsn _ f6)⟩
        rw [body, s2, if_neg (show ¬ (1 : Int32) = 0 by decide), if_neg (by rw [nI_eq (by omega) (by omega)]; omega), ev]
      · exact absurd s1 d3
    · rw [d2] at f2; cases f2
    · rw [d2] at f2; cases f2
  · refine ⟨z.2.1, lrE tx e p, rle, ?_⟩
    rw [body]
    by_cases c1 : z.2.2 = 0
    · rw [if_pos c1]
    · rw [if_neg c1]
      by_cases c2 : nI (lrE tx e p) = nI p
      · rw [if_pos c2]
      · exfalso
        rw [nI_eq (by omega) (by omega)] at c2
        refine hh (hw.mp ?_)
        rcases hcs with ⟨f1, f2, f3, f4, f5⟩ | ⟨f1, f2, f3, f4, f5, f6⟩ | ⟨f1, f2, f3, f4, f5, f6, f7⟩ | ⟨f1, f2, f3, f4, f5, f6, f7⟩
        · exact absurd f5 c2
        · refine ⟨f1, f2, fun h3 => ?_⟩
          rcases z3 with ⟨s, s1, s2⟩ | ⟨s1, s2⟩
          · rw [h3] at s1; cases s1
          · exact c1 s2
        · exact absurd f7 c2
        · exact absurd f7 c2
end WORDS
