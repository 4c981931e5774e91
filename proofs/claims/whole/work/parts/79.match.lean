/-! sets that can be had: one can be put to the smaller of two -/
section MATCH
variable {n : Nat} {T V v s p : Nat} {G : Nat → Nat → Bool} {R : Nat → Nat} {X Y Z A B : Nat → Bool}
theorem cnt2 {p q : Nat → Bool} : ∀ n, cntB p n = cntB (fun u => p u && q u) n + cntB (fun u => p u && !q u) n := by
  intro n
  induction n with
  | zero => rfl
  | succ n ih =>
    rw [cntB_succ, cntB_succ, cntB_succ, ih]
    cases p n <;> cases q n <;> simp <;> omega
theorem cntU {p q : Nat → Bool} : ∀ n, cntB (fun u => p u || q u) n + cntB (fun u => p u && q u) n = cntB p n + cntB q n := by
  intro n
  induction n with
  | zero => rfl
  | succ n ih =>
    rw [cntB_succ, cntB_succ, cntB_succ, cntB_succ]
    cases p n <;> cases q n <;> simp <;> omega
theorem sumN_lts {g h : Nat → Nat} {i : Nat} : ∀ n, (∀ v, v < n → g v ≤ h v) → i < n → g i < h i → sumN g n < sumN h n := by
  intro n
  induction n with
  | zero => intro _ hi _; omega
  | succ n ih =>
    intro e hi hlt
    rw [sumN_succ, sumN_succ]
    have h2 := e n (by omega)
    by_cases c : i = n
    · subst c
      have h1 := sumN_le (g := g) (h := h) i (fun v hv => e v (by omega))
      omega
    · have h1 := ih (fun v hv => e v (by omega)) (by omega) hlt
      omega
def nbB (V : Nat) (G : Nat → Nat → Bool) (X : Nat → Bool) (t : Nat) : Bool := anyB (fun v => G t v && X v) V
theorem nb_iff {t : Nat} : (nbB V G X t = true) ↔ ∃ v, v < V ∧ G t v = true ∧ X v = true := by
  refine anyB_iff.trans ⟨fun ⟨v, h1, h2⟩ => ?_, fun ⟨v, h1, h2, h3⟩ => ⟨v, h1, by rw [h2, h3]; rfl⟩⟩
  rw [Bool.and_eq_true] at h2
  exact ⟨v, h1, h2.1, h2.2⟩
theorem rm_le (h : ∀ t, t < T → nbB V G X t = true → nbB V G Y t = true) : rmS T V G R X ≤ rmS T V G R Y := by
  refine sumN_le T (fun t ht => ?_)
  show (if nbB V G X t = true then R t else 0) ≤ (if nbB V G Y t = true then R t else 0)
  by_cases c : nbB V G X t = true
  · rw [if_pos c, if_pos (h t ht c)]; exact Nat.le_refl _
  · rw [if_neg c]; exact Nat.zero_le _
theorem nb_mono (h : ∀ v, v < V → X v = true → Y v = true) {t : Nat} (hx : nbB V G X t = true) : nbB V G Y t = true := by
  obtain ⟨v, h1, h2, h3⟩ := nb_iff.mp hx
  exact nb_iff.mpr ⟨v, h1, h2, h v h1 h3⟩
theorem rm_sub : rmS T V G R (fun u => X u || Y u) + rmS T V G R (fun u => X u && Y u) ≤ rmS T V G R X + rmS T V G R Y := by
  unfold rmS
  rw [← sumN_add, ← sumN_add]
  refine sumN_le T (fun t ht => ?_)
  show (if nbB V G (fun u => X u || Y u) t = true then R t else 0) + (if nbB V G (fun u => X u && Y u) t = true then R t else 0) ≤ (if nbB V G X t = true then R t else 0) + (if nbB V G Y t = true then R t else 0)
  by_cases c1 : nbB V G (fun u => X u && Y u) t = true
  · have a := nb_mono (X := fun u => X u && Y u) (Y := X) (fun v _ h => by rw [Bool.and_eq_true] at h; exact h.1) c1
    have b := nb_mono (X := fun u => X u && Y u) (Y := Y) (fun v _ h => by rw [Bool.and_eq_true] at h; exact h.2) c1
    rw [if_pos c1, if_pos a, if_pos b]
    by_cases c2 : nbB V G (fun u => X u || Y u) t = true
    · rw [if_pos c2]; exact Nat.le_refl _
    · rw [if_neg c2]; omega
  · rw [if_neg c1]
    by_cases c2 : nbB V G (fun u => X u || Y u) t = true
    · rw [if_pos c2]
      obtain ⟨v, h1, h2, h3⟩ := nb_iff.mp c2
      rw [Bool.or_eq_true] at h3
      rcases h3 with h3 | h3
      · rw [if_pos (nb_iff.mpr ⟨v, h1, h2, h3⟩)]; omega
      · rw [if_pos (c := nbB V G Y t = true) (nb_iff.mpr ⟨v, h1, h2, h3⟩)]; omega
    · rw [if_neg c2]; omega
/-- no part of these is too many -/
def okP (T V : Nat) (G : Nat → Nat → Bool) (R : Nat → Nat) (A : Nat → Bool) : Prop := ∀ X : Nat → Bool, (∀ u, u < V → X u = true → A u = true) → ¬ rmS T V G R X < cntB X V
theorem exch (hR : ∀ t, t < T → 1 ≤ R t) (hA : okP T V G R A) (hB : okP T V G R B) (hlt : cntB A V < cntB B V) : ∃ v, v < V ∧ B v = true ∧ A v = false ∧ okP T V G R (fun u => A u || decide (u = v)) := by
  refine Classical.byContradiction (fun hno => ?_)
  have h1 : ∀ v, v < V → B v = true → A v = false → ∃ Y : Nat → Bool, (∀ u, u < V → Y u = true → A u = true) ∧ rmS T V G R Y = cntB Y V ∧ ∀ t, t < T → G t v = true → nbB V G Y t = true := by
    intro v hv hb ha
    have h2 : ¬ okP T V G R (fun u => A u || decide (u = v)) := fun h => hno ⟨v, hv, hb, ha, h⟩
    unfold okP at h2
    obtain ⟨X, hX⟩ := Classical.not_forall.mp h2
    obtain ⟨hX1, hX2⟩ := Classical.not_imp.mp hX
    have hX2 : rmS T V G R X < cntB X V := Classical.not_not.mp hX2
    have hXA : ∀ u, u < V → (X u && !decide (u = v)) = true → A u = true := fun u hu h => by
      rw [Bool.and_eq_true] at h
      have h3 := hX1 u hu h.1
      by_cases e : u = v
      · subst e; simp at h
      · simpa [e] using h3
    have hXv : X v = true := by
      cases hx : X v with
      | true => rfl
      | false =>
        refine absurd hX2 (hA X (fun u hu h => ?_))
        have h3 := hX1 u hu h
        by_cases e : u = v
        · subst e; rw [hx] at h; cases h
        · simpa [e] using h3
    have c1 : cntB X V = cntB (fun u => X u && !decide (u = v)) V + 1 := cntB_one (i := v) (fun u hu => by simp [hu]) (by simp) hXv V hv
    have c2 := hA _ hXA
    have hle : ∀ t, t < T → nbB V G (fun u => X u && !decide (u = v)) t = true → nbB V G X t = true := fun t _ h => nb_mono (fun u _ h => by rw [Bool.and_eq_true] at h; exact h.1) h
    have c3 := rm_le (R := R) hle
    refine ⟨fun u => X u && !decide (u = v), hXA, by omega, fun t ht hG => ?_⟩
    cases hn : nbB V G (fun u => X u && !decide (u = v)) t with
    | true => rfl
    | false =>
      have := sumN_lts (g := fun t => if nbB V G (fun u => X u && !decide (u = v)) t = true then R t else 0) (h := fun t => if nbB V G X t = true then R t else 0) (i := t) T (fun s hs => by
        by_cases c : nbB V G (fun u => X u && !decide (u = v)) s = true
        · rw [if_pos c, if_pos (hle s hs c)]; exact Nat.le_refl _
        · rw [if_neg c]; exact Nat.zero_le _) ht (by
        rw [hn, if_neg (by decide), if_pos (nb_iff.mpr ⟨v, hv, hG, hXv⟩)]
        exact hR t ht)
      have : rmS T V G R (fun u => X u && !decide (u = v)) < rmS T V G R X := this
      omega
  have h2 : ∀ n, n ≤ V → ∃ Y : Nat → Bool, (∀ u, u < V → Y u = true → A u = true) ∧ rmS T V G R Y = cntB Y V ∧ ∀ v, v < n → B v = true → A v = false → ∀ t, t < T → G t v = true → nbB V G Y t = true := by
    intro n
    induction n with
    | zero =>
      intro _
      refine ⟨fun _ => false, (fun u _ h => (nomatch h)), ?_, fun v hv => absurd hv (Nat.not_lt_zero v)⟩
      have e1 : cntB (fun _ => false) V = 0 := cntB_0.mpr (fun _ _ => rfl)
      have e2 := hA (fun _ => false) (fun u _ h => (nomatch h))
      have e3 : rmS T V G R (fun _ => false) = 0 := by
        unfold rmS
        rw [sumN_cg (h := fun _ => 0) (fun t ht => ?_)]
        · exact sumN_0
        · rw [if_neg]
          intro hc
          obtain ⟨v, _, _, h⟩ := (nb_iff (G := G) (X := fun _ => false) (t := t) (V := V)).mp hc
          cases h
      rw [e1, e3]
    | succ n ih =>
      intro hn
      obtain ⟨Y, y1, y2, y3⟩ := ih (by omega)
      by_cases c : B n = true ∧ A n = false
      · obtain ⟨Z, z1, z2, z3⟩ := h1 n (by omega) c.1 c.2
        refine ⟨fun u => Y u || Z u, fun u hu h => ?_, ?_, fun v hv hb ha t ht hG => ?_⟩
        · rw [Bool.or_eq_true] at h
          rcases h with h | h
          · exact y1 u hu h
          · exact z1 u hu h
        · have a1 := hA (fun u => Y u || Z u) (fun u hu h => by
            rw [Bool.or_eq_true] at h
            rcases h with h | h
            · exact y1 u hu h
            · exact z1 u hu h)
          have a2 := hA (fun u => Y u && Z u) (fun u hu h => by rw [Bool.and_eq_true] at h; exact y1 u hu h.1)
          have a3 := rm_sub (T := T) (V := V) (G := G) (R := R) (X := Y) (Y := Z)
          have a4 := cntU (p := Y) (q := Z) V
          omega
        · by_cases e : v = n
          · subst e
            exact nb_mono (fun u _ h => by rw [h, Bool.or_true]) (z3 t ht hG)
          · exact nb_mono (fun u _ h => by rw [h, Bool.true_or]) (y3 v (by omega) hb ha t ht hG)
      · refine ⟨Y, y1, y2, fun v hv hb ha => ?_⟩
        by_cases e : v = n
        · subst e; exact absurd ⟨hb, ha⟩ c
        · exact y3 v (by omega) hb ha
  obtain ⟨Y, y1, y2, y3⟩ := h2 V (Nat.le_refl _)
  have a1 := hB (fun u => (B u && !A u) || (B u && Y u)) (fun u hu h => by
    rw [Bool.or_eq_true, Bool.and_eq_true, Bool.and_eq_true] at h
    rcases h with h | h
    · exact h.1
    · exact h.1)
  have a2 : rmS T V G R (fun u => (B u && !A u) || (B u && Y u)) ≤ rmS T V G R Y := rm_le (fun t ht h => by
    obtain ⟨v, h3, h4, h5⟩ := nb_iff.mp h
    rw [Bool.or_eq_true, Bool.and_eq_true, Bool.and_eq_true] at h5
    rcases h5 with h5 | h5
    · exact y3 v h3 h5.1 (by simpa using h5.2) t ht h4
    · exact nb_iff.mpr ⟨v, h3, h4, h5.2⟩)
  have a3 := cntU (p := fun u => B u && !A u) (q := fun u => B u && Y u) V
  have a4 : cntB (fun u => (B u && !A u) && (B u && Y u)) V = 0 := cntB_0.mpr (fun u hu => by
    cases hy : Y u with
    | false => simp
    | true => rw [y1 u hu hy]; simp)
  have a5 := cnt2 (p := Y) (q := B) V
  have a6 : cntB (fun u => Y u && B u) V = cntB (fun u => B u && Y u) V := cntB_cg (fun u _ => Bool.and_comm _ _)
  have a7 : cntB (fun u => Y u && !B u) V ≤ cntB (fun u => A u && !B u) V := by
    have : cntB (fun u => Y u && !B u) V = cntB (fun u => (Y u && !B u) && decide (u < V)) V := cntB_cg (fun u hu => by simp [hu])
    rw [this]
    refine cntB_mono (fun u h => ?_) V
    rw [Bool.and_eq_true, Bool.and_eq_true] at h
    rw [y1 u (of_decide_eq_true h.2) h.1.1, h.1.2]; rfl
  have a8 := cnt2 (p := B) (q := A) V
  have a9 := cnt2 (p := A) (q := B) V
  have a10 : cntB (fun u => A u && B u) V = cntB (fun u => B u && A u) V := cntB_cg (fun u _ => Bool.and_comm _ _)
  omega
theorem okH_P (hV : V ≤ 10) : (okH T V G R s = true) ↔ okP T V G R (fun u => s.testBit u) := okH_iff hV
theorem okP_sub (h : okP T V G R A) (hs : ∀ u, u < V → B u = true → A u = true) : okP T V G R B := fun X hX => h X (fun u hu hx => hs u hu (hX u hu hx))
/-! the fewest who cannot: too many, or with no way -/
theorem fwS_ch {P : Nat → Bool} : ∀ i, match fwS P i with | none => ∀ s, s < i → P s = false | some b => b < i ∧ P b = true ∧ ∀ s, s < i → P s = true → pc b < pc s ∨ (pc b = pc s ∧ b ≤ s) := by
  intro i
  induction i with
  | zero => exact fun s h => absurd h (Nat.not_lt_zero s)
  | succ i ih =>
    rw [fwS_succ]
    cases ho : fwS P i with
    | none =>
      rw [ho] at ih
      have ih : ∀ s, s < i → P s = false := ih
      show match (if P i = true then some i else none) with | none => _ | some b => _
      by_cases c : P i = true
      · rw [if_pos c]
        refine ⟨by omega, c, fun s hs hp => ?_⟩
        by_cases e : s = i
        · subst e; exact Or.inr ⟨rfl, Nat.le_refl _⟩
        · rw [ih s (by omega)] at hp; cases hp
      · rw [if_neg c]
        intro s hs
        by_cases e : s = i
        · subst e; simpa using c
        · exact ih s (by omega)
    | some b =>
      rw [ho] at ih
      obtain ⟨i1, i2, i3⟩ : b < i ∧ P b = true ∧ ∀ s, s < i → P s = true → pc b < pc s ∨ (pc b = pc s ∧ b ≤ s) := ih
      show match (if pc b ≤ pc i then some b else if P i = true then some i else some b) with | none => _ | some b => _
      by_cases d : pc b ≤ pc i
      · rw [if_pos d]
        refine ⟨by omega, i2, fun s hs hp => ?_⟩
        by_cases e : s = i
        · subst e; omega
        · exact i3 s (by omega) hp
      · rw [if_neg d]
        by_cases c : P i = true
        · rw [if_pos c]
          refine ⟨by omega, c, fun s hs hp => ?_⟩
          by_cases e : s = i
          · subst e; exact Or.inr ⟨rfl, Nat.le_refl _⟩
          · have := i3 s (by omega) hp
            omega
        · rw [if_neg c]
          refine ⟨by omega, i2, fun s hs hp => ?_⟩
          by_cases e : s = i
          · subst e; exact absurd hp c
          · exact i3 s (by omega) hp
theorem pc_sub (hV : V ≤ 10) (hp : p < 2 ^ V) (hs : s < 2 ^ V) (h : p &&& s = p) : p ≤ s ∧ pc p ≤ pc s ∧ (pc p = pc s → p = s) := by
  have hb := sub_bit.mp h
  refine ⟨by rw [← h]; exact Nat.and_le_right, ?_, fun e => ?_⟩
  · rw [pcN hV hp, pcN hV hs]
    exact cntB_mono hb V
  · refine Classical.byContradiction (fun hne => ?_)
    have hex : ∃ u, s.testBit u = true ∧ p.testBit u = false := by
      refine Classical.byContradiction (fun hno => hne (Nat.eq_of_testBit_eq (fun u => ?_)))
      cases hpu : p.testBit u with
      | true => exact (hb u hpu).symm
      | false =>
        cases hsu : s.testBit u with
        | false => rfl
        | true => exact absurd ⟨u, hsu, hpu⟩ hno
    obtain ⟨u, h1, h2⟩ := hex
    have hu : u < V := by
      refine Classical.byContradiction (fun hc => ?_)
      rw [Nat.testBit_lt_two_pow (Nat.lt_of_lt_of_le hs (Nat.pow_le_pow_right (by decide) (by omega)))] at h1
      cases h1
    have := cntB_lts hb h1 h2 V hu
    rw [← pcN hV hp, ← pcN hV hs] at this
    omega
theorem fw_same (hV : V ≤ 10) {tm no : Nat → Bool} (h1 : ∀ s, s < 2 ^ V → tm s = true → no s = true) (h2 : ∀ s, s < 2 ^ V → no s = true → ∃ p, p < 2 ^ V ∧ p &&& s = p ∧ tm p = true) : fwS tm (2 ^ V) = fwS no (2 ^ V) := by
  have c1 := fwS_ch (P := tm) (2 ^ V)
  have c2 := fwS_ch (P := no) (2 ^ V)
  cases e1 : fwS tm (2 ^ V) with
  | none =>
    rw [e1] at c1
    have c1 : ∀ s, s < 2 ^ V → tm s = false := c1
    cases e2 : fwS no (2 ^ V) with
    | none => rfl
    | some b =>
      rw [e2] at c2
      obtain ⟨b1, b2, b3⟩ : b < 2 ^ V ∧ no b = true ∧ ∀ s, s < 2 ^ V → no s = true → pc b < pc s ∨ (pc b = pc s ∧ b ≤ s) := c2
      obtain ⟨p, p1, p2, p3⟩ := h2 b b1 b2
      rw [c1 p p1] at p3; cases p3
  | some a =>
    rw [e1] at c1
    obtain ⟨a1, a2, a3⟩ : a < 2 ^ V ∧ tm a = true ∧ ∀ s, s < 2 ^ V → tm s = true → pc a < pc s ∨ (pc a = pc s ∧ a ≤ s) := c1
    cases e2 : fwS no (2 ^ V) with
    | none =>
      rw [e2] at c2
      have c2 : ∀ s, s < 2 ^ V → no s = false := c2
      have := h1 a a1 a2
      rw [c2 a a1] at this; cases this
    | some b =>
      rw [e2] at c2
      obtain ⟨b1, b2, b3⟩ : b < 2 ^ V ∧ no b = true ∧ ∀ s, s < 2 ^ V → no s = true → pc b < pc s ∨ (pc b = pc s ∧ b ≤ s) := c2
      obtain ⟨p, p1, p2, p3⟩ := h2 b b1 b2
      obtain ⟨q1, q2, q3⟩ := pc_sub hV p1 b1 p2
      have r1 := b3 p p1 (h1 p p1 p3)
      have r2 : p = b := q3 (by omega)
      subst r2
      have r3 := a3 p p1 p3
      have r4 := b3 a a1 (h1 a a1 a2)
      congr 1
      omega
end MATCH
