/-! a set can be had, if no part of it is too many -/
section HALL
variable {LR : Mm → Nat → (Nat → Int32) → Prop} {LK : (Nat → Int32) → Nat → Nat → Int32 → Int32} {n : Nat} {M N Mc Mr Nc Nr : Mm} {q B K A T V v s : Nat} {m : Nat → Int32} {r x y x1 x2 x3 x4 x5 : Int32} {G : Nat → Nat → Bool} {R : Nat → Nat} {b b2 : Nat → Option Nat} {k k2 : Nat → Nat} {X Y : Nat → Bool}
/-- the room of all things that ring for some of these -/
def rmS (T V : Nat) (G : Nat → Nat → Bool) (R : Nat → Nat) (X : Nat → Bool) : Nat := sumN (fun t => if anyB (fun v => G t v && X v) V = true then R t else 0) T
def tmB (T V : Nat) (G : Nat → Nat → Bool) (R : Nat → Nat) (s : Nat) : Bool := decide (rmS T V G R (fun v => s.testBit v) < pc s)
def okH (T V : Nat) (G : Nat → Nat → Bool) (R : Nat → Nat) (s : Nat) : Bool := allB (fun p => !(decide (p &&& s = p) && tmB T V G R p)) (2 ^ V)
theorem cntB_stop {p : Nat → Bool} (h : ∀ i, n ≤ i → p i = false) : ∀ k, n ≤ k → cntB p k = cntB p n := by
  intro k
  induction k with
  | zero => intro hk; rw [show n = 0 by omega]
  | succ k ih =>
    intro hk
    by_cases e : n = k + 1
    · rw [e]
    · rw [cntB_succ, h k (by omega), if_neg (by decide)]
      exact ih (by omega)
theorem pcN (hV : V ≤ 10) (hs : s < 2 ^ V) : pc s = cntB (fun u => s.testBit u) V := by
  have e : pc s = cntB (fun u => s.testBit u) 31 := cntB_cg (fun i hi => bt_nI (by omega))
  rw [e]
  exact cntB_stop (fun i hi => Nat.testBit_lt_two_pow (Nat.lt_of_lt_of_le hs (Nat.pow_le_pow_right (by decide) hi))) 31 (by omega)
theorem anyB_cg {p p2 : Nat → Bool} (h : ∀ v, v < n → p v = p2 v) : anyB p n = anyB p2 n := iter_cg (fun i s hi => by rw [h i hi])
theorem sumN_le {g h : Nat → Nat} : ∀ n, (∀ v, v < n → g v ≤ h v) → sumN g n ≤ sumN h n := by
  intro n
  induction n with
  | zero => intro _; exact Nat.le_refl _
  | succ n ih =>
    intro e
    rw [sumN_succ, sumN_succ]
    have h1 := ih (fun v hv => e v (by omega))
    have h2 := e n (by omega)
    omega
theorem rmS_cg (h : ∀ v, v < V → X v = Y v) : rmS T V G R X = rmS T V G R Y := by
  unfold rmS
  refine sumN_cg (fun t ht => ?_)
  rw [anyB_cg (p := fun v => G t v && X v) (p2 := fun v => G t v && Y v) (fun v hv => by rw [h v hv])]
def toN (X : Nat → Bool) (V : Nat) : Nat := iter (fun u a => if X u = true then a ||| 2 ^ u else a) V 0
theorem toN_bit (u : Nat) : ∀ V, (toN X V).testBit u = (decide (u < V) && X u) := by
  intro V
  induction V with
  | zero => show Nat.testBit 0 u = _; rw [Nat.zero_testBit]; simp
  | succ V ih =>
    show (if X V = true then toN X V ||| 2 ^ V else toN X V).testBit u = _
    by_cases c : X V = true
    · rw [if_pos c, Nat.testBit_or, ih, Nat.testBit_two_pow]
      by_cases e : V = u
      · subst e; simp [c]
      · by_cases e2 : u < V
        · simp [e, e2, show u < V + 1 by omega]
        · simp [e, e2, show ¬ u < V + 1 by omega]
    · rw [if_neg c, ih]
      by_cases e : u = V
      · subst e; simp [c]
      · by_cases e2 : u < V
        · simp [e2, show u < V + 1 by omega]
        · simp [e2, show ¬ u < V + 1 by omega]
theorem toN_lt : ∀ V, toN X V < 2 ^ V := by
  intro V
  induction V with
  | zero => exact (by decide : 0 < 2 ^ 0)
  | succ V ih =>
    show (if X V = true then toN X V ||| 2 ^ V else toN X V) < _
    have h1 : 2 ^ V < 2 ^ (V + 1) := Nat.pow_lt_pow_right (by decide) (by omega)
    by_cases c : X V = true
    · rw [if_pos c]
      exact Nat.or_lt_two_pow (by omega) h1
    · rw [if_neg c]; omega
theorem sub_bit {p s : Nat} : (p &&& s = p) ↔ ∀ u, p.testBit u = true → s.testBit u = true := by
  refine ⟨fun h u hu => ?_, fun h => Nat.eq_of_testBit_eq (fun u => ?_)⟩
  · rw [← h, Nat.testBit_and, Bool.and_eq_true] at hu
    exact hu.2
  · rw [Nat.testBit_and]
    cases hp : p.testBit u with
    | false => rfl
    | true => rw [h u hp]; rfl
theorem okH_iff (hV : V ≤ 10) : (okH T V G R s = true) ↔ ∀ X : Nat → Bool, (∀ u, u < V → X u = true → s.testBit u = true) → ¬ rmS T V G R X < cntB X V := by
  refine allB_iff.trans ⟨fun h X hX hlt => ?_, fun h p hp => ?_⟩
  · have h1 := h (toN X V) (toN_lt V)
    have h2 : toN X V &&& s = toN X V := sub_bit.mpr (fun u hu => by
      rw [toN_bit, Bool.and_eq_true] at hu
      exact hX u (of_decide_eq_true hu.1) hu.2)
    have e1 : rmS T V G R (fun v => (toN X V).testBit v) = rmS T V G R X := rmS_cg (fun v hv => by rw [toN_bit]; simp [hv])
    have e2 : pc (toN X V) = cntB X V := by rw [pcN hV (toN_lt V)]; exact cntB_cg (fun v hv => by rw [toN_bit]; simp [hv])
    have h3 : tmB T V G R (toN X V) = true := decide_eq_true (by rw [e1, e2]; exact hlt)
    rw [decide_eq_true h2, h3] at h1
    cases h1
  · cases h1 : decide (p &&& s = p) with
    | false => rfl
    | true =>
      have h2 := h (fun v => p.testBit v) (fun u _ hu => sub_bit.mp (of_decide_eq_true h1) u hu)
      have h3 : tmB T V G R p = false := decide_eq_false (by rw [pcN hV hp]; exact h2)
      rw [h3]; rfl
/-- counted by who has them -/
theorem cnt_part : ∀ n, (∀ u, u < n → X u = true → ∃ t, t < T ∧ b u = some t) → cntB X n = sumN (fun t => cntB (fun u => X u && decide (b u = some t)) n) T := by
  intro n
  induction n with
  | zero => intro _; exact sumN_0.symm
  | succ n ih =>
    intro h
    have ih := ih (fun u hu => h u (by omega))
    rw [cntB_succ]
    by_cases c : X n = true
    · obtain ⟨t0, h1, h2⟩ := h n (by omega) c
      have e : ∀ t, t < T → cntB (fun u => X u && decide (b u = some t)) (n + 1) = cntB (fun u => X u && decide (b u = some t)) n + (if t = t0 then 1 else 0) := fun t ht => by
        rw [cntB_succ]
        by_cases d : t = t0
        · subst d
          rw [if_pos rfl, if_pos (by simp [c, h2])]
        · have : ¬ t0 = t := fun e => d e.symm
          rw [if_neg d, if_neg (by simp [h2, this])]; rfl
      rw [if_pos c, sumN_cg e, sumN_add, sumN_1, if_pos h1, ih]
    · have e : ∀ t, t < T → cntB (fun u => X u && decide (b u = some t)) (n + 1) = cntB (fun u => X u && decide (b u = some t)) n := fun t ht => by
        rw [cntB_succ, if_neg (by simp [c])]
      rw [if_neg c, sumN_cg e, ih]
/-- a way for all of a set: no part is too many -/
theorem way_ok (hV : V ≤ 10) (w1 : ∀ u t, b u = some t → u < V ∧ t < T ∧ G t u = true) (w2 : ∀ t, t < T → k t ≤ R t) (w3 : ∀ t, t < T → k t = cntB (fun u => decide (b u = some t)) V) (w4 : ∀ u, u < V → s.testBit u = true → b u ≠ none) : okH T V G R s = true := by
  refine (okH_iff hV).mpr (fun X hX => ?_)
  have e := cnt_part (X := X) (T := T) (b := b) V (fun u hu hx => by
    cases hb : b u with
    | none => exact absurd hb (w4 u hu (hX u hu hx))
    | some t => exact ⟨t, (w1 u t hb).2.1, rfl⟩)
  have h := sumN_le (g := fun t => cntB (fun u => X u && decide (b u = some t)) V) (h := fun t => if anyB (fun v => G t v && X v) V = true then R t else 0) T (fun t ht => by
    by_cases c : anyB (fun v => G t v && X v) V = true
    · rw [if_pos c]
      refine Nat.le_trans (Nat.le_trans (cntB_mono (p := fun u => decide (b u = some t)) (fun u hu => ?_) V) (Nat.le_of_eq (w3 t ht).symm)) (w2 t ht)
      rw [Bool.and_eq_true] at hu
      exact hu.2
    · rw [if_neg c, Nat.le_zero_eq, cntB_0]
      intro u hu
      rw [Bool.eq_false_iff]
      intro hc
      rw [Bool.and_eq_true] at hc
      refine c (anyB_iff.mpr ⟨u, hu, ?_⟩)
      rw [(w1 u t (of_decide_eq_true hc.2)).2.2, hc.1]; rfl)
  unfold rmS
  omega
/-- those who can't be helped are too many -/
theorem X_many (hv : v < V) (w1 : ∀ u t, b u = some t → u < V ∧ t < T ∧ G t u = true) (w3 : ∀ t, t < T → k t = cntB (fun u => decide (b u = some t)) V) (hb : b v = none) (hX : X v = true) (hX2 : ∀ u, X u = true → ∀ t, t < T → G t u = true → k t = R t ∧ ∀ o, b o = some t → X o = true) : rmS T V G R X < cntB X V := by
  have e := cnt_part (X := fun u => X u && (b u).isSome) (T := T) (b := b) V (fun u hu hx => by
    cases hbu : b u with
    | none => rw [hbu] at hx; simp at hx
    | some t => exact ⟨t, (w1 u t hbu).2.1, rfl⟩)
  have h := sumN_le (h := fun t => cntB (fun u => (X u && (b u).isSome) && decide (b u = some t)) V) (g := fun t => if anyB (fun v => G t v && X v) V = true then R t else 0) T (fun t ht => by
    by_cases c : anyB (fun v => G t v && X v) V = true
    · rw [if_pos c]
      obtain ⟨u, h1, h2⟩ := anyB_iff.mp c
      rw [Bool.and_eq_true] at h2
      obtain ⟨h3, h4⟩ := hX2 u h2.2 t ht h2.1
      rw [← h3, w3 t ht]
      refine cntB_mono (fun u hu => ?_) V
      have hu := of_decide_eq_true hu
      rw [h4 u hu, hu]
      simp
    · rw [if_neg c]; exact Nat.zero_le _)
  have h2 := cntB_lts (p := X) (p2 := fun u => X u && (b u).isSome) (i := v) (fun u hu => by rw [Bool.and_eq_true] at hu; exact hu.1) hX (by rw [hb]; simp) V hv
  unfold rmS
  omega
theorem areHadR (hI : Inv m B) (hC : CtR m G M) (hs : s < 2 ^ vN m) : Tr (f_X10_areHad M (nI s)) (fun r => r.1 = okH (tN m) (vN m) G (rmN m) s ∧ Fr [119, 120] M r.2) := by
  obtain ⟨e3, hT⟩ := hI.t
  obtain ⟨e4, hV⟩ := hI.v
  have i4 : ibs (4 : Int32) 807 = true := by decide
  unfold f_X10_areHad
  refine Tr.bind (Q := fun N => Fr [119, 120] M N ∧ ∀ t, t < 9 → N.1 119 t = nI 0) ?_ (fun N1 hN1 => ?_)
  · refine lp0 (fun i (N : Mm) => (N, nI i)) 9 (fun i N => Fr [119, 120] M N ∧ ∀ t, t < i → N.1 119 t = nI 0) (by decide) M rfl ⟨Fr.rf, fun t ht => by omega⟩ (fun i N hi hP => ?_) (fun N hP => ?_)
    · show Tr (f_X10_areHad_L2 N (nI s) (nI i)) _
      unfold f_X10_areHad_L2
      rw [if_neg (show ¬ (9 : Int32) ≤ nI i by rw [l_9, nI_leI (by omega) (by omega)]; omega), if_pos (ibs_nI (by omega) (by decide)), sA_nI (by omega), Option.bind_some, show nI i + 1 = nI (i + 1) from by rw [l_1, nI_add]]
      refine Tr.some (Or.inl ⟨_, rfl, hP.1.tr (Fr.sI (by simp)), fun t ht => ?_⟩)
      rw [sI_at]
      by_cases e : t = i
      · rw [if_pos ⟨rfl, e⟩]; rfl
      · rw [if_neg (fun h => e h.2)]; exact hP.2 t (by omega)
    · show Tr (f_X10_areHad_L2 N (nI s) (nI 9)) _
      unfold f_X10_areHad_L2
      rw [if_pos (by decide)]
      exact Tr.some ⟨_, rfl, hP⟩
  · refine Tr.bind (Q := fun N => Fr [119, 120] M N ∧ (∀ t, t < 9 → N.1 119 t = nI 0) ∧ ∀ v, v < 10 → N.1 120 v = -1) ?_ (fun N2 hN2 => ?_)
    · refine lp0 (fun i (N : Mm) => (N, nI i)) 10 (fun i N => Fr [119, 120] M N ∧ (∀ t, t < 9 → N.1 119 t = nI 0) ∧ ∀ v, v < i → N.1 120 v = -1) (by decide) N1 rfl ⟨hN1.1, hN1.2, fun t ht => by omega⟩ (fun i N hi hP => ?_) (fun N hP => ?_)
      · show Tr (f_X10_areHad_L23 N (nI s) (nI i)) _
        unfold f_X10_areHad_L23
        rw [if_neg (show ¬ (10 : Int32) ≤ nI i by rw [l_10, nI_leI (by omega) (by omega)]; omega), if_pos (ibs_nI (by omega) (by decide)), sA_nI (by omega), Option.bind_some, show nI i + 1 = nI (i + 1) from by rw [l_1, nI_add]]
        refine Tr.some (Or.inl ⟨_, rfl, hP.1.tr (Fr.sI (by simp)), fun t ht => by rw [sI_fn (by decide)]; exact hP.2.1 t ht, fun t ht => ?_⟩)
        rw [sI_at]
        by_cases e : t = i
        · rw [if_pos ⟨rfl, e⟩]
        · rw [if_neg (fun h => e h.2)]; exact hP.2.2 t (by omega)
      · show Tr (f_X10_areHad_L23 N (nI s) (nI 10)) _
        unfold f_X10_areHad_L23
        rw [if_pos (by decide)]
        exact Tr.some ⟨_, rfl, hP⟩
    · obtain ⟨hF, hk0, hb0⟩ := hN2
      refine Tr.bind (Q := fun r => (∃ N, r = .inl (false, N) ∧ okH (tN m) (vN m) G (rmN m) s = false ∧ Fr [119, 120] M N) ∨ (∃ N, r = .inr N ∧ okH (tN m) (vN m) G (rmN m) s = true ∧ Fr [119, 120] M N)) ?_ (fun r hr => ?_)
      · refine lp0 (fun i (N : Mm) => (N, nI i)) (vN m) (fun i N => Fr [119, 120] M N ∧ ∃ b k, HdR (tN m) b k N ∧ (∀ u t, b u = some t → u < vN m ∧ t < tN m ∧ G t u = true) ∧ (∀ t, t < tN m → k t ≤ rmN m t) ∧ (∀ t, t < tN m → k t = cntB (fun u => decide (b u = some t)) (vN m)) ∧ ∀ u, (b u ≠ none) ↔ (u < i ∧ s.testBit u = true)) (by omega) N2 rfl ⟨hF, fun _ => none, fun _ => 0, ⟨hb0, fun t ht => hk0 t (by omega)⟩, fun u t h => by simp at h, fun t ht => Nat.zero_le _, fun t ht => by symm; rw [cntB_0]; intro u hu; rfl, fun u => ⟨fun h => absurd rfl h, fun h => absurd h.1 (Nat.not_lt_zero u)⟩⟩ (fun v N hv hP => ?_) (fun N hP => ?_)
        · obtain ⟨hFN, b, k, hH, w1, w2, w3, w4⟩ := hP
          have hCN : CtR m G N := hC.fr hFN
          show Tr (f_X10_areHad_L44 N (nI s) (nI v)) _
          unfold f_X10_areHad_L44
          rw [if_pos i4, show gA N 110 4 = nI (vN m) from by show N.1 110 4 = _; rw [hCN.1]; exact e4, if_neg (by rw [nI_leI (by omega) (by omega)]; omega), show nI v + 1 = nI (v + 1) from by rw [l_1, nI_add]]
          by_cases c : s.testBit v = true
          · rw [if_pos (by rw [isOfE (by omega), bt_nI (by omega)]; exact c)]
            have hbv : b v = none := by
              cases hbv : b v with
              | none => rfl
              | some t => have := (w4 v).mp (by rw [hbv]; exact fun h => by cases h); omega
            have hW : Wf (tN m) (vN m) G (rmN m) b k v (bt 0) := ⟨w1, w2, fun t ht _ => by
              rw [w3 t ht]
              refine cntB_cg (fun u hu => ?_)
              by_cases e : u = v
              · subst e; simp [hbv]
              · simp [e], fun t ht => by rw [hbv] at ht; cases ht⟩
            have hd : cntB (fun t => !(bt 0 t)) (tN m) < 40 := Nat.lt_of_le_of_lt (cntB_le _ _) (by omega)
            rcases findsR hI 40 N v 0 b k hCN hH hv hW hd with ⟨N3, b2, k2, f1, f2, f3, ⟨t1, p1, p1a, p1b, p1c⟩, p2, p3, p4, p5⟩ | ⟨f1, X, hX1, hX2⟩
            · rw [show f_X10_finds N (nI v) 0 = some (true, N3) from f1, Option.bind_some, if_pos rfl]
              have hb2 : ∀ u, (b2 u ≠ none) ↔ (u = v ∨ b u ≠ none) := fun u => by
                by_cases e : u = v
                · subst e; rw [p1]; simp
                · rcases p2 u e with h | ⟨t, t2, h1, h2, h3, h4⟩
                  · rw [h]; simp [e]
                  · rw [h1, h3]; simp
              refine Tr.some (Or.inl ⟨N3, rfl, hFN.tr f2, b2, k2, f3, fun u t hu => ?_, p5, fun t ht => p3 t ht (b_0 t), fun u => ?_⟩)
              · by_cases e : u = v
                · subst e; rw [p1] at hu; cases hu; exact ⟨hv, p1a, p1c⟩
                · rcases p2 u e with h | ⟨t3, t2, h1, h2, h3, h4, h5, h6⟩
                  · rw [h] at hu; exact w1 u t hu
                  · rw [h3] at hu; cases hu; exact ⟨(w1 u t3 h1).1, h5, h6⟩
              · rw [hb2, w4]
                refine ⟨fun h => ?_, fun h => ?_⟩
                · rcases h with rfl | h
                  · exact ⟨by omega, c⟩
                  · exact ⟨by omega, h.2⟩
                · by_cases e : u = v
                  · exact Or.inl e
                  · exact Or.inr ⟨by omega, h.2⟩
            · rw [show f_X10_finds N (nI v) 0 = some (false, N) from f1, Option.bind_some, if_neg (show ¬ false = true by decide)]
              have hmany := X_many (X := X) (R := rmN m) hv w1 w3 hbv hX1 (fun u hu t ht hG => (hX2 u hu).2.2 t ht hG (b_0 t))
              refine Tr.some (Or.inr ⟨_, rfl, Or.inl ⟨N, rfl, ?_, hFN⟩⟩)
              rw [Bool.eq_false_iff]
              intro hok
              refine (okH_iff hV).mp hok X (fun u hu hx => ?_) hmany
              rcases (hX2 u hx).2.1 with rfl | e
              · exact c
              · exact ((w4 u).mp e).2
          · rw [if_neg (by rw [isOfE (by omega), bt_nI (by omega)]; exact c)]
            refine Tr.some (Or.inl ⟨N, rfl, hFN, b, k, hH, w1, w2, w3, fun u => ?_⟩)
            rw [w4]
            refine ⟨fun h => ⟨by omega, h.2⟩, fun h => ⟨?_, h.2⟩⟩
            by_cases e : u = v
            · subst e; exact absurd h.2 c
            · omega
        · obtain ⟨hFN, b, k, hH, w1, w2, w3, w4⟩ := hP
          have hCN : CtR m G N := hC.fr hFN
          show Tr (f_X10_areHad_L44 N (nI s) (nI (vN m))) _
          unfold f_X10_areHad_L44
          rw [if_pos i4, show gA N 110 4 = nI (vN m) from by show N.1 110 4 = _; rw [hCN.1]; exact e4, if_pos (by rw [nI_leI (by omega) (by omega)]; omega)]
          exact Tr.some ⟨_, rfl, Or.inr ⟨N, rfl, way_ok hV w1 w2 w3 (fun u hu hx => (w4 u).mpr ⟨hu, hx⟩), hFN⟩⟩
      · rcases hr with ⟨N, rfl, h1, h2⟩ | ⟨N, rfl, h1, h2⟩
        · exact Tr.some ⟨h1.symm, h2⟩
        · exact Tr.some ⟨h1.symm, h2⟩
end HALL
