/-! most, cannot -/
section MOST
variable {LR : Mm → Nat → (Nat → Int32) → Prop} {LK : (Nat → Int32) → Nat → Nat → Int32 → Int32} {n : Nat} {M N Mc Mr Nc Nr : Mm} {q B K T V v s p : Nat} {m : Nat → Int32} {r x y x1 x2 x3 x4 x5 : Int32} {G : Nat → Nat → Bool} {R : Nat → Nat}
theorem hi_bit : ∀ V s g : Nat, s < 2 ^ V → g < 2 ^ V → s < g → ∃ i, i < V ∧ s.testBit i = false ∧ g.testBit i = true ∧ ∀ j, i < j → s.testBit j = g.testBit j := by
  intro V
  induction V with
  | zero => intro s g h1 h2 h3; rw [Nat.pow_zero] at h1 h2; omega
  | succ V ih =>
    intro s g h1 h2 h3
    rw [Nat.pow_succ] at h1 h2
    by_cases c : s / 2 < g / 2
    · obtain ⟨i, i1, i2, i3, i4⟩ := ih (s / 2) (g / 2) (by omega) (by omega) c
      refine ⟨i + 1, by omega, by rw [Nat.testBit_succ]; exact i2, by rw [Nat.testBit_succ]; exact i3, fun j hj => ?_⟩
      obtain ⟨j, rfl⟩ : ∃ k, j = k + 1 := ⟨j - 1, by omega⟩
      rw [Nat.testBit_succ, Nat.testBit_succ]
      exact i4 j (by omega)
    · refine ⟨0, by omega, ?_, ?_, fun j hj => ?_⟩
      · rw [Nat.testBit_zero]; simp; omega
      · rw [Nat.testBit_zero]; simp; omega
      · obtain ⟨j, rfl⟩ : ∃ k, j = k + 1 := ⟨j - 1, by omega⟩
        rw [Nat.testBit_succ, Nat.testBit_succ, show s / 2 = g / 2 by omega]
/-- taking each that still fits -/
def moS (ok : Nat → Bool) (n : Nat) : Nat := iter (fun v c => if ok (c ||| 2 ^ v) = true then c ||| 2 ^ v else c) n 0
theorem moS_succ {ok : Nat → Bool} : moS ok (n + 1) = if ok (moS ok n ||| 2 ^ n) = true then moS ok n ||| 2 ^ n else moS ok n := rfl
theorem moS_lt {ok : Nat → Bool} : ∀ n, moS ok n < 2 ^ n := by
  intro n
  induction n with
  | zero => exact (by decide : 0 < 2 ^ 0)
  | succ n ih =>
    have h1 : 2 ^ n < 2 ^ (n + 1) := Nat.pow_lt_pow_right (by decide) (by omega)
    rw [moS_succ]
    by_cases c : ok (moS ok n ||| 2 ^ n) = true
    · rw [if_pos c]; exact Nat.or_lt_two_pow (by omega) h1
    · rw [if_neg c]; omega
theorem moS_bit {ok : Nat → Bool} (u : Nat) : ∀ n k, n ≤ k → (moS ok n).testBit u = ((moS ok k).testBit u && decide (u < n)) := by
  intro n k
  induction k with
  | zero =>
    intro h
    rw [show n = 0 by omega]
    show Nat.testBit 0 u = _
    rw [Nat.zero_testBit]; simp
  | succ k ih =>
    intro h
    by_cases e : n = k + 1
    · subst e
      by_cases hu : u < k + 1
      · simp [hu]
      · rw [Nat.testBit_lt_two_pow (Nat.lt_of_lt_of_le (moS_lt (ok := ok) (k + 1)) (Nat.pow_le_pow_right (by decide) (by omega)))]
        simp
    · rw [ih (by omega), moS_succ]
      by_cases c : ok (moS ok k ||| 2 ^ k) = true
      · rw [if_pos c, Nat.testBit_or, Nat.testBit_two_pow]
        by_cases e2 : k = u
        · have : ¬ u < n := by omega
          simp [this]
        · simp [e2]
      · rw [if_neg c]
theorem mo_ok {ok : Nat → Bool} (h0 : ok 0 = true) : ∀ n, ok (moS ok n) = true := by
  intro n
  induction n with
  | zero => exact h0
  | succ n ih =>
    rw [moS_succ]
    by_cases c : ok (moS ok n ||| 2 ^ n) = true
    · rw [if_pos c]; exact c
    · rw [if_neg c]; exact ih
theorem mo_not {ok : Nat → Bool} (hv : v < n) (h : (moS ok n).testBit v = false) : ok (moS ok v ||| 2 ^ v) = false := by
  have h1 := moS_bit (ok := ok) v (v + 1) n (by omega)
  rw [h, Bool.false_and, moS_succ] at h1
  cases c : ok (moS ok v ||| 2 ^ v) with
  | false => rfl
  | true =>
    rw [if_pos c, Nat.testBit_or, Nat.testBit_two_pow] at h1
    simp at h1
theorem ok0 (hV : V ≤ 10) : okH T V G R 0 = true := (okH_iff hV).mpr (fun X hX => by
  have : cntB X V = 0 := cntB_0.mpr (fun u hu => by
    cases hx : X u with
    | false => rfl
    | true => have := hX u hu hx; rw [Nat.zero_testBit] at this; cases this)
  omega)
/-- the least of the greatest -/
def mrS (ok : Nat → Bool) (i : Nat) : Nat := iter (fun s f => if pc s ≤ pc f then f else if ok s = true then s else f) i 0
theorem mrS_succ {ok : Nat → Bool} {i : Nat} : mrS ok (i + 1) = if pc i ≤ pc (mrS ok i) then mrS ok i else if ok i = true then i else mrS ok i := rfl
theorem pc0 : pc 0 = 0 := by decide +kernel
theorem mrS_ch {ok : Nat → Bool} (h0 : ok 0 = true) : ∀ i, (mrS ok i = 0 ∨ mrS ok i < i) ∧ ok (mrS ok i) = true ∧ ∀ s, s < i → ok s = true → pc s < pc (mrS ok i) ∨ (pc s = pc (mrS ok i) ∧ mrS ok i ≤ s) := by
  intro i
  induction i with
  | zero => exact ⟨Or.inl rfl, h0, fun s hs => absurd hs (Nat.not_lt_zero s)⟩
  | succ i ih =>
    obtain ⟨i1, i2, i3⟩ := ih
    rw [mrS_succ]
    generalize mrS ok i = f at i1 i2 i3 ⊢
    by_cases c : pc i ≤ pc f
    · rw [if_pos c]
      refine ⟨by omega, i2, fun s hs hp => ?_⟩
      by_cases e : s = i
      · subst e
        rcases i1 with i1 | i1
        · subst i1; rw [pc0] at c ⊢; omega
        · omega
      · exact i3 s (by omega) hp
    · rw [if_neg c]
      by_cases d : ok i = true
      · rw [if_pos d]
        refine ⟨by omega, d, fun s hs hp => ?_⟩
        by_cases e : s = i
        · subst e; exact Or.inr ⟨rfl, Nat.le_refl _⟩
        · have := i3 s (by omega) hp
          omega
      · rw [if_neg d]
        refine ⟨by omega, i2, fun s hs hp => ?_⟩
        by_cases e : s = i
        · subst e; exact absurd hp d
        · exact i3 s (by omega) hp
theorem most_eq (hV : V ≤ 10) (hR : ∀ t, t < T → 1 ≤ R t) : moS (okH T V G R) V = mrS (okH T V G R) (2 ^ V) := by
  have h0 : okH T V G R 0 = true := ok0 hV
  have hg := mo_ok h0 V
  have hlt := moS_lt (ok := okH T V G R) V
  have hnot : ∀ v, v < V → (moS (okH T V G R) V).testBit v = false → ¬ okP T V G R (fun u => (moS (okH T V G R) v ||| 2 ^ v).testBit u) := fun v hv hb h => by
    have := mo_not hv hb
    rw [(okH_P hV).mpr h] at this
    cases this
  have hbit := fun u v (hv : v ≤ V) => moS_bit (ok := okH T V G R) u v V hv
  obtain ⟨f1, f2, f3⟩ := mrS_ch h0 (2 ^ V)
  have hp : 0 < 2 ^ V := Nat.pow_pos (by decide)
  generalize hgg : moS (okH T V G R) V = g at hg hlt hnot hbit ⊢
  generalize mrS (okH T V G R) (2 ^ V) = f at f1 f2 f3 ⊢
  have hf : f < 2 ^ V := by omega
  have hP := (okH_P hV).mp hg
  -- no set that can be had has more
  have max : ∀ s, s < 2 ^ V → okH T V G R s = true → pc s ≤ pc g ∧ (pc s = pc g → g ≤ s) := fun s hs ho => by
    have hS := (okH_P hV).mp ho
    refine ⟨?_, fun heq => ?_⟩
    · refine Classical.byContradiction (fun hc => ?_)
      rw [pcN hV hs, pcN hV hlt] at hc
      obtain ⟨v, v1, v2, v3, v4⟩ := exch hR hP hS (by omega)
      refine hnot v v1 v3 (okP_sub v4 (fun u hu h => ?_))
      have h : (moS (okH T V G R) v ||| 2 ^ v).testBit u = true := h
      rw [Nat.testBit_or, Nat.testBit_two_pow, hbit u v (by omega), Bool.or_eq_true, Bool.and_eq_true] at h
      show (g.testBit u || decide (u = v)) = true
      rcases h with h | h
      · rw [h.1]; rfl
      · have := of_decide_eq_true h
        subst this
        simp
    · refine Classical.byContradiction (fun hc => ?_)
      obtain ⟨i, i1, i2, i3, i4⟩ := hi_bit V s g hs hlt (by omega)
      rw [pcN hV hs, pcN hV hlt, show V = i + (V - i) by omega, cntB_split, cntB_split] at heq
      have e1 := cntB_one (p := fun u => s.testBit (i + u)) (p2 := fun u => g.testBit (i + u)) (i := 0) (fun u hu => (i4 (i + u) (by omega)).symm) (by simpa using i2) (by simpa using i3) (V - i) (by omega)
      have hA : okP T V G R (fun u => g.testBit u && decide (u < i)) := okP_sub hP (fun u hu h => by rw [Bool.and_eq_true] at h; exact h.1)
      have hB : okP T V G R (fun u => s.testBit u && decide (u < i)) := okP_sub hS (fun u hu h => by rw [Bool.and_eq_true] at h; exact h.1)
      have st : ∀ z : Nat, cntB (fun u => z.testBit u && decide (u < i)) V = cntB (fun u => z.testBit u) i := fun z => by
        have hz : ∀ j, i ≤ j → (z.testBit j && decide (j < i)) = false := fun j hj => by
          have : ¬ j < i := by omega
          simp [this]
        rw [cntB_stop (p := fun u => z.testBit u && decide (u < i)) (n := i) hz V (by omega)]
        exact cntB_cg (fun u hu => by simp [hu])
      obtain ⟨v, v1, v2, v3, v4⟩ := exch hR hA hB (by rw [st, st]; omega)
      rw [Bool.and_eq_true] at v2
      have hvi := of_decide_eq_true v2.2
      have v3 : g.testBit v = false := by simpa [hvi] using v3
      refine hnot v v1 v3 (okP_sub v4 (fun u hu h => ?_))
      have h : (moS (okH T V G R) v ||| 2 ^ v).testBit u = true := h
      rw [Nat.testBit_or, Nat.testBit_two_pow, hbit u v (by omega), Bool.or_eq_true, Bool.and_eq_true] at h
      show ((g.testBit u && decide (u < i)) || decide (u = v)) = true
      rcases h with h | h
      · have h2 := of_decide_eq_true h.2
        have : u < i := by omega
        rw [h.1]; simp [this]
      · have := of_decide_eq_true h
        subst this
        simp
  have a1 := f3 g hlt hg
  obtain ⟨a2, a3⟩ := max f hf f2
  have a4 : pc f = pc g := by omega
  have := a3 a4
  omega
/-! the class's side -/
theorem tooC (h : PC M T V G R) (hT : T ≤ 9) (hV : V ≤ 10) (hR : ∀ t, t < T → R t ≤ 3) (hs : s < 1024) : f_X5_tooMany M (nI s) = some (tmB T V G R s) := by
  obtain ⟨h2, h3, h4, h5⟩ := h
  have g2 : gI M 87 2 = nI T := h2
  have hle : ∀ n, n ≤ T → sumN (fun t => if anyB (fun v => G t v && s.testBit v) V = true then R t else 0) n ≤ 3 * n := by
    intro n
    induction n with
    | zero => intro _; exact Nat.le_refl _
    | succ n ih =>
      intro hn
      have := ih (by omega)
      have h7 := hR n (by omega)
      rw [sumN_succ]
      by_cases c : anyB (fun v => G n v && s.testBit v) V = true
      · rw [if_pos c]; omega
      · rw [if_neg c]; omega
  have hle := hle T (Nat.le_refl _)
  unfold f_X5_tooMany
  have : loop FU (fun a_1 => f_X5_tooMany_L4 M (nI s) a_1.1 a_1.2) (0, 0) = some (nI (rmS T V G R (fun v => s.testBit v))) := by
    refine lpI (fun t (a : Nat) => (nI a, nI t)) T (fun t a => a + (if anyB (fun v => G t v && s.testBit v) V = true then R t else 0)) nI (by omega) 0 rfl (fun t a ht => ?_) (fun a => ?_)
    · show f_X5_tooMany_L4 M (nI s) (nI a) (nI t) = _
      unfold f_X5_tooMany_L4
      rw [g2, if_neg (by rw [nI_leI (by omega) (by omega)]; omega), a88 (by omega), (h5 t ht).1, a89 (by omega), (h5 t ht).2, nI_add, show nI t + 1 = nI (t + 1) from by rw [l_1, nI_add]]
      by_cases c : anyB (fun v => G t v && s.testBit v) V = true
      · rw [if_neg (by rw [bset_and (by omega), c]; decide), if_pos c]
      · rw [if_pos (by rw [bset_and (by omega)]; simpa using c), if_neg c]; rfl
    · show f_X5_tooMany_L4 M (nI s) (nI a) (nI T) = _
      unfold f_X5_tooMany_L4
      rw [g2, if_pos (by rw [nI_leI (by omega) (by omega)]; omega)]
  rw [this, Option.bind_some, bitC hs, Option.bind_some]
  have p1 := pc_le s
  unfold tmB
  have hle : rmS T V G R (fun v => s.testBit v) ≤ 3 * T := hle
  by_cases c : pc s ≤ rmS T V G R (fun v => s.testBit v)
  · rw [if_pos (by rw [nI_leI (by omega) (by omega)]; exact c), decide_eq_false (by omega)]
  · rw [if_neg (by rw [nI_leI (by omega) (by omega)]; exact c), decide_eq_true (by omega)]
def oZ : Option Nat → Int32
  | none => 0
  | some b => nI b
theorem cannotC (h : PC M T V G R) (hT : T ≤ 9) (hV : V ≤ 10) (hR : ∀ t, t < T → R t ≤ 3) : f_X5_fewestTooMany M = some (oZ (fwS (tmB T V G R) (2 ^ V))) := by
  have h4 : gI M 87 4 = nI (2 ^ V) := h.2.2.1
  have h2 : 0 < 2 ^ V := Nat.pow_pos (by decide)
  have h3 : 2 ^ V ≤ 2 ^ 10 := Nat.pow_le_pow_right (by decide) hV
  have h3 : 2 ^ V ≤ 1024 := h3
  have t0 : tmB T V G R 0 = false := by
    unfold tmB
    rw [pc0]
    exact decide_eq_false (by omega)
  unfold f_X5_fewestTooMany
  generalize 2 ^ V = P at h4 h2 h3
  have : loop FU (fun a_4 => f_X5_fewestTooMany_L4 M a_4.1 a_4.2) (0, 1) = some (oZ (fwS (tmB T V G R) P)) := by
    refine (lp0 (Q := fun r : Int32 => r = oZ (fwS (tmB T V G R) P)) (fun i (o : Option Nat) => (oZ o, nI (i + 1))) (P - 1) (fun i o => o = fwS (tmB T V G R) (i + 1) ∧ ∀ b, o = some b → 1 ≤ b) (by omega) none rfl ⟨by rw [fwS_succ]; show none = (if tmB T V G R 0 = true then some 0 else none); rw [t0]; rfl, fun b hb => by cases hb⟩ (fun i o hi hP => ?_) (fun o hP => ?_)).eq
    · obtain ⟨ho, hb1⟩ := hP
      have hlt := fwS_lt (ok := tmB T V G R) (i + 1)
      have hss := fwS_succ (ok := tmB T V G R) (i := i + 1)
      rw [← ho] at hss hlt
      generalize fwS (tmB T V G R) (i + 1 + 1) = o2 at hss ⊢
      show Tr (f_X5_fewestTooMany_L4 M (oZ o) (nI (i + 1))) _
      have J : f_X5_fewestTooMany_J4_27 M (oZ o) (nI (i + 1)) = if tmB T V G R (i + 1) = true then some (.inl (nI (i + 1), nI (i + 1 + 1))) else some (.inl (oZ o, nI (i + 1 + 1))) := by
        unfold f_X5_fewestTooMany_J4_27 f_X5_fewestTooMany_J4_32
        rw [if_neg (by decide), tooC h hT hV hR (by omega), Option.bind_some, show nI (i + 1) + 1 = nI (i + 1 + 1) from by rw [l_1, nI_add]]
      have J0 : f_X5_fewestTooMany_J4_32 M (oZ o) (nI (i + 1)) 0 = some (.inl (oZ o, nI (i + 1 + 1))) := by
        unfold f_X5_fewestTooMany_J4_32
        rw [if_pos rfl, show nI (i + 1) + 1 = nI (i + 1 + 1) from by rw [l_1, nI_add]]
      unfold f_X5_fewestTooMany_L4
      rw [h4, if_neg (by rw [nI_leI (by omega) (by omega)]; omega), J, J0]
      cases hoo : o with
      | none =>
        rw [hoo] at hss
        have hss : o2 = if tmB T V G R (i + 1) = true then some (i + 1) else none := hss
        rw [if_pos (show oZ none = 0 from rfl)]
        by_cases c : tmB T V G R (i + 1) = true
        · rw [if_pos c] at hss
          rw [if_pos c]
          exact Tr.some (Or.inl ⟨o2, by rw [hss]; rfl, rfl, fun b hb => by rw [hss] at hb; cases hb; omega⟩)
        · rw [if_neg c] at hss
          rw [if_neg c]
          exact Tr.some (Or.inl ⟨o2, by rw [hss], rfl, fun b hb => by rw [hss] at hb; cases hb⟩)
      | some b =>
        rw [hoo] at hss
        have hb := hlt b hoo
        have hb1 := hb1 b hoo
        have hss : o2 = if pc b ≤ pc (i + 1) then some b else if tmB T V G R (i + 1) = true then some (i + 1) else some b := hss
        have p1 := pc_le b
        have p2 := pc_le (i + 1)
        rw [if_neg (show ¬ oZ (some b) = 0 from by rw [oZ, show (0 : Int32) = nI 0 from rfl, nI_eq (by omega) (by omega)]; omega), bitC (by omega), Option.bind_some, oZ, bitC (by omega), Option.bind_some]
        by_cases d : pc b ≤ pc (i + 1)
        · rw [if_pos d] at hss
          rw [if_pos (by rw [nI_leI (by omega) (by omega)]; exact d)]
          exact Tr.some (Or.inl ⟨o2, by rw [hss]; rfl, rfl, fun c hc => by rw [hss] at hc; cases hc; exact hb1⟩)
        · rw [if_neg d] at hss
          rw [if_neg (by rw [nI_leI (by omega) (by omega)]; exact d)]
          by_cases c : tmB T V G R (i + 1) = true
          · rw [if_pos c] at hss
            rw [if_pos c]
            exact Tr.some (Or.inl ⟨o2, by rw [hss]; rfl, rfl, fun b hb => by rw [hss] at hb; cases hb; omega⟩)
          · rw [if_neg c] at hss
            rw [if_neg c]
            exact Tr.some (Or.inl ⟨o2, by rw [hss]; rfl, rfl, fun c hc => by rw [hss] at hc; cases hc; exact hb1⟩)
    · obtain ⟨ho, hb1⟩ := hP
      rw [show P - 1 + 1 = P by omega] at ho
      subst ho
      generalize fwS (tmB T V G R) P = o
      show Tr (f_X5_fewestTooMany_L4 M (oZ o) (nI (P - 1 + 1))) _
      unfold f_X5_fewestTooMany_L4
      rw [h4, if_pos (by rw [nI_leI (by omega) (by omega)]; omega)]
      exact Tr.some ⟨_, rfl, rfl⟩
  rw [this]; rfl
theorem anyC (h : PC M T V G R) (hT : T ≤ 9) (hV : V ≤ 10) (hR : ∀ t, t < T → R t ≤ 3) (hv : v < V) {c : Nat} (hc : c < 2 ^ v) (hok : okH T V G R c = true) : f_X5_anyTooMany M (nI (c ||| 2 ^ v)) (nI v) = some (!(okH T V G R (c ||| 2 ^ v))) := by
  have hb1 : (1 : Int32) <<< (nI v &&& 31) = nI (2 ^ v) := b1_pow v (by omega)
  have hp1 : 0 < 2 ^ v := Nat.pow_pos (by decide)
  have hsl : c ||| 2 ^ v < 2 ^ (v + 1) := Nat.or_lt_two_pow (Nat.lt_trans hc (Nat.pow_lt_pow_right (by decide) (by omega))) (Nat.pow_lt_pow_right (by decide) (by omega))
  have hsV : 2 ^ (v + 1) ≤ 2 ^ V := Nat.pow_le_pow_right (by decide) (by omega)
  have hs10 : 2 ^ V ≤ 2 ^ 10 := Nat.pow_le_pow_right (by decide) hV
  have hs10 : 2 ^ V ≤ 1024 := hs10
  have hge : 2 ^ v ≤ c ||| 2 ^ v := Nat.right_le_or
  have hsub : ∀ p, p < 2 ^ v → p &&& (c ||| 2 ^ v) = p → p &&& c = p := fun p hp h => sub_bit.mpr (fun u hu => by
    have h1 := sub_bit.mp h u hu
    rw [Nat.testBit_or, Nat.testBit_two_pow, Bool.or_eq_true] at h1
    rcases h1 with h1 | h1
    · exact h1
    · have := of_decide_eq_true h1
      subst this
      rw [Nat.testBit_lt_two_pow hp] at hu
      cases hu)
  have hc2 : c < 2 ^ V := by omega
  generalize hss : c ||| 2 ^ v = s at hsl hge hsub ⊢
  have hsV2 : s < 2 ^ V := by omega
  have small : ∀ p, p < 2 ^ v → p &&& s = p → tmB T V G R p = false := fun p hp h => by
    have := allB_iff.mp hok p (by omega)
    rw [decide_eq_true (hsub p hp h)] at this
    simpa using this
  have eand : ∀ p, p < 1024 → (nI p &&& (nI s ^^^ (-1)) = 0) = (p &&& s = p) := fun p hp => by
    refine propext ⟨fun h => sub_bit.mpr (fun u hu => ?_), fun h => z_bt.mpr (fun i hi => ?_)⟩
    · have hu32 : u < 32 := by
        refine Classical.byContradiction (fun hc => ?_)
        rw [Nat.testBit_lt_two_pow (Nat.lt_of_lt_of_le hp (show 1024 ≤ 2 ^ u from Nat.pow_le_pow_right (n := 2) (by decide) (show 10 ≤ u by omega)))] at hu
        cases hu
      have := z_bt.mp h u hu32
      rw [b_and, b_xor, b_m1 u hu32, bt_nI hu32, bt_nI hu32, hu] at this
      simpa using this
    · rw [b_and, b_xor, b_m1 i hi, bt_nI hi, bt_nI hi]
      cases hpi : p.testBit i with
      | false => rfl
      | true => rw [sub_bit.mp h i hpi]; rfl
  unfold f_X5_anyTooMany
  rw [hb1]
  have : Tr (loop FU (fun a_2 => f_X5_anyTooMany_L4 M (nI s) a_2) (nI (2 ^ v))) (fun r => (r = .inl true ∧ okH T V G R s = false) ∨ (r = .inr () ∧ okH T V G R s = true)) := by
    refine lp0 (fun i (_ : Unit) => nI (2 ^ v + i)) (s + 1 - 2 ^ v) (fun i _ => ∀ p, 2 ^ v ≤ p → p < 2 ^ v + i → p &&& s = p → tmB T V G R p = false) (by omega) () rfl (fun p h1 h2 => by omega) (fun i _ hi hP => ?_) (fun _ hP => ?_)
    · show Tr (f_X5_anyTooMany_L4 M (nI s) (nI (2 ^ v + i))) _
      have hpl : 2 ^ v + i < 1024 := by omega
      unfold f_X5_anyTooMany_L4
      rw [if_neg (by rw [nI_ltI (by omega) (by omega)]; omega), tooC h hT hV hR hpl, Option.bind_some, show nI (2 ^ v + i) + 1 = nI (2 ^ v + (i + 1)) from by rw [l_1, nI_add]; rfl]
      by_cases d : (2 ^ v + i) &&& s = 2 ^ v + i
      · rw [if_pos (by rw [eand _ hpl]; exact d)]
        by_cases e : tmB T V G R (2 ^ v + i) = true
        · rw [if_pos e]
          refine Tr.some (Or.inr ⟨_, rfl, Or.inl ⟨rfl, ?_⟩⟩)
          rw [Bool.eq_false_iff]
          intro hk
          have := allB_iff.mp hk (2 ^ v + i) (by omega)
          rw [decide_eq_true d, e] at this
          cases this
        · rw [if_neg e]
          refine Tr.some (Or.inl ⟨(), rfl, fun p h1 h2 h3 => ?_⟩)
          by_cases e2 : p = 2 ^ v + i
          · rw [e2]; simpa using e
          · exact hP p h1 (by omega) h3
      · rw [if_neg (by rw [eand _ hpl]; exact d)]
        refine Tr.some (Or.inl ⟨(), rfl, fun p h1 h2 h3 => ?_⟩)
        by_cases e2 : p = 2 ^ v + i
        · rw [e2] at h3; exact absurd h3 d
        · exact hP p h1 (by omega) h3
    · show Tr (f_X5_anyTooMany_L4 M (nI s) (nI (2 ^ v + (s + 1 - 2 ^ v)))) _
      unfold f_X5_anyTooMany_L4
      rw [if_pos (by rw [nI_ltI (by omega) (by omega)]; omega)]
      refine Tr.some ⟨_, rfl, Or.inr ⟨rfl, allB_iff.mpr (fun p hp => ?_)⟩⟩
      cases hd : decide (p &&& s = p) with
      | false => rfl
      | true =>
        have hd := of_decide_eq_true hd
        have hps : p ≤ s := by rw [← hd]; exact Nat.and_le_right
        by_cases c1 : p < 2 ^ v
        · rw [small p c1 hd]; rfl
        · rw [hP p (by omega) (by omega) hd]; rfl
  obtain ⟨r, r1, r2⟩ := this
  rw [r1, Option.bind_some]
  rcases r2 with ⟨rfl, hk⟩ | ⟨rfl, hk⟩
  · rw [hk]; rfl
  · rw [hk]; rfl
theorem mostC (h : PC M T V G R) (hT : T ≤ 9) (hV : V ≤ 10) (hR : ∀ t, t < T → R t ≤ 3) : f_X5_mostAtOnce M = some (nI (moS (okH T V G R) V)) := by
  have h3 : gI M 87 3 = nI V := h.2.1
  have h0 : okH T V G R 0 = true := ok0 hV
  unfold f_X5_mostAtOnce
  have : loop FU (fun a_3 => f_X5_mostAtOnce_L4 M a_3.1 a_3.2) (0, 0) = some (nI (moS (okH T V G R) V)) := by
    refine (lp0 (Q := fun r : Int32 => r = nI (moS (okH T V G R) V)) (fun i (c : Nat) => (nI c, nI i)) V (fun i c => c = moS (okH T V G R) i) (by omega) 0 rfl rfl (fun v c hv hc => ?_) (fun c hc => ?_)).eq
    · subst hc
      have hlt := moS_lt (ok := okH T V G R) v
      have hok := mo_ok h0 v
      have hss := moS_succ (ok := okH T V G R) (n := v)
      generalize moS (okH T V G R) (v + 1) = c2 at hss ⊢
      generalize moS (okH T V G R) v = c at hss hlt hok ⊢
      show Tr (f_X5_mostAtOnce_L4 M (nI c) (nI v)) _
      have ho : nI c ||| (1 <<< (nI v &&& 31)) = nI (c ||| 2 ^ v) := by
        rw [show (1 : Int32) <<< (nI v &&& 31) = nI (2 ^ v) from b1_pow v (by omega)]
        refine b_ext (fun i hi => ?_)
        rw [b_or, bt_nI hi, bt_nI hi, bt_nI hi, Nat.testBit_or]
      unfold f_X5_mostAtOnce_L4
      rw [h3, if_neg (by rw [nI_leI (by omega) (by omega)]; omega), Option.bind_some, ho, anyC h hT hV hR hv hlt hok, Option.bind_some, show nI v + 1 = nI (v + 1) from by rw [l_1, nI_add]]
      by_cases d : okH T V G R (c ||| 2 ^ v) = true
      · rw [if_pos d] at hss
        rw [d, if_neg (by decide)]
        exact Tr.some (Or.inl ⟨c2, by rw [hss], rfl⟩)
      · rw [if_neg d] at hss
        rw [Bool.eq_false_iff.mpr d, if_pos (by decide)]
        exact Tr.some (Or.inl ⟨c2, by rw [hss], rfl⟩)
    · subst hc
      generalize moS (okH T V G R) V = c
      show Tr (f_X5_mostAtOnce_L4 M (nI c) (nI V)) _
      unfold f_X5_mostAtOnce_L4
      rw [h3, if_pos (by rw [nI_leI (by omega) (by omega)]; omega)]
      exact Tr.some ⟨_, rfl, rfl⟩
  rw [this]; rfl
/-! the reference's side -/
theorem mrS_lt {ok : Nat → Bool} : ∀ i, mrS ok i ≤ i := by
  intro i
  induction i with
  | zero => exact Nat.le_refl _
  | succ i ih =>
    rw [mrS_succ]
    by_cases c : pc i ≤ pc (mrS ok i)
    · rw [if_pos c]; omega
    · rw [if_neg c]
      by_cases d : ok i = true
      · rw [if_pos d]; omega
      · rw [if_neg d]; omega
theorem mostR (hI : Inv m B) (hC : CtR m G M) : Tr (loop FU (fun a_7 => f_X10_most_L13 a_7.1 a_7.2.1 a_7.2.2) (M, 0, 0)) (fun r => r.2 = nI (mrS (okH (tN m) (vN m) G (rmN m)) (2 ^ vN m)) ∧ Fr [119, 120] M r.1) := by
  obtain ⟨e4, hV⟩ := hI.v
  have i4 : ibs (4 : Int32) 807 = true := by decide
  have h2 : 0 < 2 ^ vN m := Nat.pow_pos (by decide)
  have h3 : 2 ^ vN m ≤ 2 ^ 10 := Nat.pow_le_pow_right (by decide) hV
  have h3 : 2 ^ vN m ≤ 1024 := h3
  have hp : (1 : Int32) <<< (nI (vN m) &&& 31) = nI (2 ^ vN m) := b1_pow _ (by omega)
  refine lp0 (fun i (s : Mm × Nat) => (s.1, nI s.2, nI i)) (2 ^ vN m) (fun i s => s.2 = mrS (okH (tN m) (vN m) G (rmN m)) i ∧ Fr [119, 120] M s.1) (by omega) (M, 0) rfl ⟨rfl, Fr.rf⟩ (fun s o hs hP => ?_) (fun o hP => ?_)
  · obtain ⟨N, f⟩ := o
    obtain ⟨hf, hF⟩ := hP
    have hf : f = mrS (okH (tN m) (vN m) G (rmN m)) s := hf
    have hlt := mrS_lt (ok := okH (tN m) (vN m) G (rmN m)) s
    have hss := mrS_succ (ok := okH (tN m) (vN m) G (rmN m)) (i := s)
    rw [← hf] at hss hlt
    generalize mrS (okH (tN m) (vN m) G (rmN m)) (s + 1) = f2 at hss ⊢
    show Tr (f_X10_most_L13 N (nI f) (nI s)) _
    have hCN := hC.fr hF
    have p1 := pc_le f
    have p2 := pc_le s
    unfold f_X10_most_L13
    rw [if_pos i4, show gA N 110 4 = nI (vN m) from by show N.1 110 4 = _; rw [hCN.1]; exact e4, hp, if_neg (by rw [nI_leI (by omega) (by omega)]; omega), bitR, Option.bind_some, bitR, Option.bind_some, show nI s + 1 = nI (s + 1) from by rw [l_1, nI_add]]
    by_cases c : pc s ≤ pc f
    · rw [if_pos c] at hss
      rw [if_pos (by rw [nI_leI (by omega) (by omega)]; exact c)]
      exact Tr.some (Or.inl ⟨(N, f2), by rw [hss], rfl, hF⟩)
    · rw [if_neg c] at hss
      rw [if_neg (by rw [nI_leI (by omega) (by omega)]; exact c)]
      refine Tr.bind (areHadR hI hCN hs) (fun r hr => ?_)
      rw [hr.1]
      by_cases d : okH (tN m) (vN m) G (rmN m) s = true
      · rw [if_pos d] at hss
        rw [if_pos d]
        exact Tr.some (Or.inl ⟨(r.2, f2), by rw [hss], rfl, hF.tr hr.2⟩)
      · rw [if_neg d] at hss
        rw [if_neg d]
        exact Tr.some (Or.inl ⟨(r.2, f2), by rw [hss], rfl, hF.tr hr.2⟩)
  · obtain ⟨N, f⟩ := o
    obtain ⟨hf, hF⟩ := hP
    have hf : f = mrS (okH (tN m) (vN m) G (rmN m)) (2 ^ vN m) := hf
    subst hf
    generalize mrS (okH (tN m) (vN m) G (rmN m)) (2 ^ vN m) = f
    show Tr (f_X10_most_L13 N (nI f) (nI (2 ^ vN m))) _
    have hCN := hC.fr hF
    unfold f_X10_most_L13
    rw [if_pos i4, show gA N 110 4 = nI (vN m) from by show N.1 110 4 = _; rw [hCN.1]; exact e4, hp, if_pos (by rw [nI_leI (by omega) (by omega)]; omega)]
    exact Tr.some ⟨_, rfl, rfl, hF⟩
theorem cannotR (hI : Inv m B) (hC : CtR m G M) : Tr (loop FU (fun a_7 => f_X10_cannot_L13 a_7.1 a_7.2.1 a_7.2.2) (M, 0, 1)) (fun r => r.2 = oZ (fwS (fun s => !(okH (tN m) (vN m) G (rmN m) s)) (2 ^ vN m)) ∧ Fr [119, 120] M r.1) := by
  obtain ⟨e4, hV⟩ := hI.v
  have i4 : ibs (4 : Int32) 807 = true := by decide
  have h2 : 0 < 2 ^ vN m := Nat.pow_pos (by decide)
  have h3 : 2 ^ vN m ≤ 2 ^ 10 := Nat.pow_le_pow_right (by decide) hV
  have h3 : 2 ^ vN m ≤ 1024 := h3
  have hp : (1 : Int32) <<< (nI (vN m) &&& 31) = nI (2 ^ vN m) := b1_pow _ (by omega)
  have t0 : (!(okH (tN m) (vN m) G (rmN m) 0)) = false := by rw [ok0 hV]; rfl
  generalize hno : (fun s => !(okH (tN m) (vN m) G (rmN m) s)) = no
  have hno2 : ∀ s, no s = !(okH (tN m) (vN m) G (rmN m) s) := fun s => by rw [← hno]
  generalize hPP : 2 ^ vN m = P at h2 h3 hp
  refine lp0 (fun i (s : Mm × Option Nat) => (s.1, oZ s.2, nI (i + 1))) (P - 1) (fun i s => (s.2 = fwS no (i + 1) ∧ ∀ b, s.2 = some b → 1 ≤ b) ∧ Fr [119, 120] M s.1) (by omega) (M, none) rfl ⟨⟨by rw [fwS_succ]; show none = (if no 0 = true then some 0 else none); rw [hno2, t0]; rfl, fun b hb => by cases hb⟩, Fr.rf⟩ (fun i so hi hP => ?_) (fun so hP => ?_)
  · obtain ⟨N, o⟩ := so
    obtain ⟨⟨ho, hb1⟩, hF⟩ := hP
    have ho : o = fwS no (i + 1) := ho
    have hb1 : ∀ b, o = some b → 1 ≤ b := hb1
    have hlt := fwS_lt (ok := no) (i + 1)
    have hss := fwS_succ (ok := no) (i := i + 1)
    rw [← ho] at hss hlt
    generalize fwS no (i + 1 + 1) = o2 at hss ⊢
    have hCN := hC.fr hF
    show Tr (f_X10_cannot_L13 N (oZ o) (nI (i + 1))) _
    have J : Tr (f_X10_cannot_J13_40 N (oZ o) (nI (i + 1))) (fun x => ∃ K, x = .inl (K, (if no (i + 1) = true then nI (i + 1) else oZ o), nI (i + 1 + 1)) ∧ Fr [119, 120] M K) := by
      unfold f_X10_cannot_J13_40
      refine Tr.bind (areHadR (s := i + 1) hI hCN (by omega)) (fun r hr => ?_)
      rw [hr.1, hno2, show nI (i + 1) + 1 = nI (i + 1 + 1) from by rw [l_1, nI_add]]
      cases hk : okH (tN m) (vN m) G (rmN m) (i + 1) with
      | true => rw [if_pos rfl]; exact Tr.some ⟨r.2, rfl, hF.tr hr.2⟩
      | false => rw [if_neg (by decide)]; exact Tr.some ⟨r.2, rfl, hF.tr hr.2⟩
    unfold f_X10_cannot_L13
    rw [if_pos i4, show gA N 110 4 = nI (vN m) from by show N.1 110 4 = _; rw [hCN.1]; exact e4, hp, if_neg (by rw [nI_leI (by omega) (by omega)]; omega)]
    cases hoo : o with
    | none =>
      rw [hoo] at hss J
      have hss : o2 = if no (i + 1) = true then some (i + 1) else none := hss
      rw [if_pos (show oZ none = 0 from rfl)]
      obtain ⟨x, j1, K, j2, j3⟩ := J
      refine ⟨x, j1, Or.inl ⟨(K, o2), ?_, ⟨rfl, fun b hb => ?_⟩, j3⟩⟩
      · rw [j2, hss]
        by_cases c : no (i + 1) = true
        · rw [if_pos c, if_pos c]; rfl
        · rw [if_neg c, if_neg c]
      · have hb : o2 = some b := hb
        rw [hss] at hb
        by_cases c : no (i + 1) = true
        · rw [if_pos c] at hb; cases hb; omega
        · rw [if_neg c] at hb; cases hb
    | some b =>
      rw [hoo] at hss J
      have hb := hlt b hoo
      have hb1 := hb1 b hoo
      have hss : o2 = if pc b ≤ pc (i + 1) then some b else if no (i + 1) = true then some (i + 1) else some b := hss
      have p1 := pc_le b
      have p2 := pc_le (i + 1)
      rw [if_neg (show ¬ oZ (some b) = 0 from by rw [oZ, show (0 : Int32) = nI 0 from rfl, nI_eq (by omega) (by omega)]; omega), bitR, Option.bind_some, show oZ (some b) = nI b from rfl, bitR, Option.bind_some, show nI (i + 1) + 1 = nI (i + 1 + 1) from by rw [l_1, nI_add]]
      by_cases d : pc b ≤ pc (i + 1)
      · rw [if_pos d] at hss
        rw [if_pos (by rw [nI_leI (by omega) (by omega)]; exact d)]
        exact Tr.some (Or.inl ⟨(N, o2), by rw [hss]; rfl, ⟨rfl, fun c hc => by have hc : o2 = some c := hc; rw [hss] at hc; cases hc; exact hb1⟩, hF⟩)
      · rw [if_neg d] at hss
        rw [if_neg (by rw [nI_leI (by omega) (by omega)]; exact d)]
        obtain ⟨x, j1, K, j2, j3⟩ := J
        refine ⟨x, j1, Or.inl ⟨(K, o2), ?_, ⟨rfl, fun c hc => ?_⟩, j3⟩⟩
        · rw [j2, hss]
          by_cases c : no (i + 1) = true
          · rw [if_pos c, if_pos c]; rfl
          · rw [if_neg c, if_neg c]
        · have hc : o2 = some c := hc
          rw [hss] at hc
          by_cases e : no (i + 1) = true
          · rw [if_pos e] at hc; cases hc; omega
          · rw [if_neg e] at hc; cases hc; exact hb1
  · obtain ⟨N, o⟩ := so
    obtain ⟨⟨ho, hb1⟩, hF⟩ := hP
    have ho : o = fwS no (P - 1 + 1) := ho
    rw [show P - 1 + 1 = P by omega] at ho
    subst ho
    generalize fwS no P = o
    have hCN := hC.fr hF
    show Tr (f_X10_cannot_L13 N (oZ o) (nI (P - 1 + 1))) _
    unfold f_X10_cannot_L13
    rw [if_pos i4, show gA N 110 4 = nI (vN m) from by show N.1 110 4 = _; rw [hCN.1]; exact e4, hp, if_pos (by rw [nI_leI (by omega) (by omega)]; omega)]
    exact Tr.some ⟨_, rfl, rfl, hF⟩
theorem cannot_eq (hV : V ≤ 10) : fwS (tmB T V G R) (2 ^ V) = fwS (fun s => !(okH T V G R s)) (2 ^ V) := by
  refine fw_same hV (fun s hs h => ?_) (fun s hs h => ?_)
  · show (!(okH T V G R s)) = true
    rw [Bool.not_eq_true']
    rw [Bool.eq_false_iff]
    intro hk
    have := allB_iff.mp hk s hs
    rw [decide_eq_true (Nat.and_self s), h] at this
    cases this
  · have h : (!(okH T V G R s)) = true := h
    rw [Bool.not_eq_true'] at h
    refine Classical.byContradiction (fun hno => ?_)
    rw [Bool.eq_false_iff] at h
    refine h (allB_iff.mpr (fun p hp => ?_))
    cases h1 : decide (p &&& s = p) with
    | false => rfl
    | true =>
      cases h2 : tmB T V G R p with
      | false => rfl
      | true => exact absurd ⟨p, hp, of_decide_eq_true h1, h2⟩ hno
theorem s_17 (HL : LSpec LR LK) (h : RR LR n Mc Mr) : ∃ Nc Nr, so_17 x1 x2 x3 x4 x5 Mc Mr Nc Nr ∧ RR LR (n + 1) Nc Nr := by
  obtain ⟨hk, hkL, hM, hI, hR⟩ := h.cur
  have hT := hI.t
  have hV := hI.v
  obtain ⟨N, c1, c2, c3, c4, c5⟩ := pairC HL h
  obtain ⟨K, d1, d2, d3, d4, d5, d6⟩ := looksR HL h 0
  obtain ⟨r, r1, r2, r3⟩ := mostR hI (show CtR (Mr.1 110) (rgG LK (Mr.1 110)) K from ⟨d4, d6⟩)
  rw [← most_eq hV.2 (fun t ht => (hI.rm ht).2.1)] at r2
  refine ⟨N, r.1, ⟨nI (moS (okH (tN (Mr.1 110)) (vN (Mr.1 110)) (rgG LK (Mr.1 110)) (rmN (Mr.1 110))) (vN (Mr.1 110))), ?_, ?_⟩, RR_q HL h c2 ⟨c3, c4⟩ (d2.tr (KpR.of2 (FrQ.of r3 (by simp)) (r3 110 (by simp)).1 (by simp) (by simp) (by simp)))⟩
  · unfold f_X9_most
    rw [c1, Option.bind_some, mostC c5 hT.2 hV.2 (fun t ht => (hI.rm ht).2.2), Option.bind_some]
  · unfold f_X10_most
    rw [Option.bind_some, d1, Option.bind_some, r1, Option.bind_some, r2]
theorem s_19 (HL : LSpec LR LK) (h : RR LR n Mc Mr) : ∃ Nc Nr, so_19 x1 x2 x3 x4 x5 Mc Mr Nc Nr ∧ RR LR (n + 1) Nc Nr := by
  obtain ⟨hk, hkL, hM, hI, hR⟩ := h.cur
  have hT := hI.t
  have hV := hI.v
  obtain ⟨N, c1, c2, c3, c4, c5⟩ := pairC HL h
  obtain ⟨K, d1, d2, d3, d4, d5, d6⟩ := looksR HL h 0
  obtain ⟨r, r1, r2, r3⟩ := cannotR hI (show CtR (Mr.1 110) (rgG LK (Mr.1 110)) K from ⟨d4, d6⟩)
  rw [← cannot_eq hV.2] at r2
  refine ⟨N, r.1, ⟨oZ (fwS (tmB (tN (Mr.1 110)) (vN (Mr.1 110)) (rgG LK (Mr.1 110)) (rmN (Mr.1 110))) (2 ^ vN (Mr.1 110))), ?_, ?_⟩, RR_q HL h c2 ⟨c3, c4⟩ (d2.tr (KpR.of2 (FrQ.of r3 (by simp)) (r3 110 (by simp)).1 (by simp) (by simp) (by simp)))⟩
  · unfold f_X9_cannot
    rw [c1, Option.bind_some, cannotC c5 hT.2 hV.2 (fun t ht => (hI.rm ht).2.2), Option.bind_some]
  · unfold f_X10_cannot
    rw [Option.bind_some, d1, Option.bind_some, r1, Option.bind_some, r2]
end MOST
