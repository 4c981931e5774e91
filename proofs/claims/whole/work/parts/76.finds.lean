/-! the reference's search: whom to change so that one more is had -/
section FINDS
variable {LR : Mm → Nat → (Nat → Int32) → Prop} {LK : (Nat → Int32) → Nat → Nat → Int32 → Int32} {n : Nat} {M N Mc Mr Nc Nr : Mm} {q B K A T V v : Nat} {m : Nat → Int32} {r x y x1 x2 x3 x4 x5 : Int32} {G : Nat → Nat → Bool} {R : Nat → Nat} {b b2 : Nat → Option Nat} {k k2 : Nat → Nat} {tr tr2 : Nat → Bool}
theorem cntB_one {p p2 : Nat → Bool} {i : Nat} (h : ∀ u, u ≠ i → p2 u = p u) (h1 : p i = false) (h2 : p2 i = true) : ∀ n, i < n → cntB p2 n = cntB p n + 1 := by
  intro n
  induction n with
  | zero => intro hi; omega
  | succ n ih =>
    intro hi
    rw [cntB_succ, cntB_succ]
    by_cases e : i = n
    · subst e
      rw [if_pos h2, h1, if_neg (by decide)]
      have : cntB p2 i = cntB p i := cntB_cg (fun u hu => h u (by omega))
      rw [this]
    · rw [ih (by omega), h n (fun e2 => e e2.symm)]
      by_cases c : p n = true
      · rw [if_pos c, if_pos c]
      · rw [if_neg c, if_neg c]
theorem cntB_mono {p p2 : Nat → Bool} (h : ∀ u, p2 u = true → p u = true) : ∀ n, cntB p2 n ≤ cntB p n := by
  intro n
  induction n with
  | zero => exact Nat.le_refl _
  | succ n ih =>
    rw [cntB_succ, cntB_succ]
    by_cases c : p2 n = true
    · rw [if_pos c, if_pos (h n c)]; omega
    · rw [if_neg c]
      by_cases d : p n = true
      · rw [if_pos d]; omega
      · rw [if_neg d]; exact ih
theorem cntB_lts {p p2 : Nat → Bool} {i : Nat} (h : ∀ u, p2 u = true → p u = true) (h1 : p i = true) (h2 : p2 i = false) : ∀ n, i < n → cntB p2 n < cntB p n := by
  intro n
  induction n with
  | zero => intro hi; omega
  | succ n ih =>
    intro hi
    rw [cntB_succ, cntB_succ]
    by_cases e : i = n
    · subst e
      have := cntB_mono h i
      rw [h2, if_neg (by decide), if_pos h1]
      omega
    · have := ih (by omega)
      by_cases c : p2 n = true
      · rw [if_pos c, if_pos (h n c)]; omega
      · rw [if_neg c]
        by_cases d : p n = true
        · rw [if_pos d]; omega
        · rw [if_neg d]; exact this
/-- ahead of a search for v, but for the things of tr -/
def Wf (T V : Nat) (G : Nat → Nat → Bool) (R : Nat → Nat) (b : Nat → Option Nat) (k : Nat → Nat) (v : Nat) (tr : Nat → Bool) : Prop :=
  (∀ u t, b u = some t → u < V ∧ t < T ∧ G t u = true) ∧ (∀ t, t < T → k t ≤ R t) ∧ (∀ t, t < T → tr t = false → k t = cntB (fun u => decide (u ≠ v) && decide (b u = some t)) V) ∧ (∀ t, b v = some t → tr t = true)
/-- behind it, if it found -/
def Pf (T V : Nat) (G : Nat → Nat → Bool) (R : Nat → Nat) (b : Nat → Option Nat) (k : Nat → Nat) (b2 : Nat → Option Nat) (k2 : Nat → Nat) (v : Nat) (tr : Nat → Bool) : Prop :=
  (∃ t, b2 v = some t ∧ t < T ∧ tr t = false ∧ G t v = true) ∧ (∀ u, u ≠ v → b2 u = b u ∨ ∃ t t2, b u = some t ∧ tr t = false ∧ b2 u = some t2 ∧ tr t2 = false ∧ t2 < T ∧ G t2 u = true) ∧
  (∀ t, t < T → tr t = false → k2 t = cntB (fun u => decide (b2 u = some t)) V) ∧ (∀ t, tr t = true → k2 t = k t) ∧ (∀ t, t < T → k2 t ≤ R t)
/-- behind it, if not: those who can't be helped -/
def Xf (T V : Nat) (G : Nat → Nat → Bool) (R : Nat → Nat) (b : Nat → Option Nat) (k : Nat → Nat) (v : Nat) (tr : Nat → Bool) (X : Nat → Bool) : Prop :=
  X v = true ∧ ∀ u, X u = true → u < V ∧ (u = v ∨ b u ≠ none) ∧ ∀ t, t < T → G t u = true → tr t = false → k t = R t ∧ ∀ o, b o = some t → X o = true
theorem Pf_base (h : Wf T V G R b k v tr) (hv : v < V) {t : Nat} (ht : t < T) (hG : G t v = true) (htr : tr t = false) (hk : k t ≠ R t) : Pf T V G R b k (fun u => if u = v then some t else b u) (fun s => if s = t then k s + 1 else k s) v tr := by
  obtain ⟨h1, h2, h3, h4⟩ := h
  refine ⟨⟨t, if_pos rfl, ht, htr, hG⟩, fun u hu => Or.inl (if_neg hu), fun s hs hts => ?_, fun s hs => ?_, fun s hs => ?_⟩
  · show (if s = t then k s + 1 else k s) = _
    by_cases e : s = t
    · subst e
      rw [if_pos rfl, h3 s hs hts]
      refine (cntB_one (i := v) (fun u hu => ?_) ?_ ?_ V hv).symm
      · simp [hu]
      · simp
      · simp
    · rw [if_neg e, h3 s hs hts]
      refine cntB_cg (fun u hu => ?_)
      by_cases c : u = v
      · subst c
        have : ¬ t = s := fun e2 => e e2.symm
        simp [this]
      · simp [c]
  · show (if s = t then k s + 1 else k s) = _
    rw [if_neg (fun e => by rw [e] at hs; rw [hs] at htr; cases htr)]
  · show (if s = t then k s + 1 else k s) ≤ _
    by_cases e : s = t
    · subst e
      rw [if_pos rfl]
      have := h2 s hs
      omega
    · rw [if_neg e]; exact h2 s hs
theorem Wf_in (h : Wf T V G R b k v tr) {o t : Nat} (ho : b o = some t) (hG : G t v = true) (htr : tr t = false) (htr2 : ∀ s, s < T → tr2 s = (tr s || G s v)) : Wf T V G R b k o tr2 := by
  obtain ⟨h1, h2, h3, h4⟩ := h
  have ht := (h1 o t ho).2.1
  have t2 : tr2 t = true := by rw [htr2 t ht, hG, Bool.or_true]
  refine ⟨h1, h2, fun s hs hts => ?_, fun s hs => ?_⟩
  · have hts2 := hts
    rw [htr2 s hs, Bool.or_eq_false_iff] at hts2
    rw [h3 s hs hts2.1]
    refine cntB_cg (fun u hu => ?_)
    by_cases c : b u = some s
    · have c1 : u ≠ v := fun e => by rw [e] at c; have := h4 s c; rw [this] at hts2; cases hts2.1
      have c2 : u ≠ o := fun e => by rw [e, ho] at c; cases c; rw [t2] at hts; cases hts
      simp [c, c1, c2]
    · simp [c]
  · rw [ho] at hs
    cases hs
    exact t2
theorem Pf_in (h : Wf T V G R b k v tr) (hv : v < V) {o t : Nat} (ho : b o = some t) (hG : G t v = true) (htr : tr t = false) (htr2 : ∀ s, tr2 s = (tr s || (decide (s < T) && G s v))) (hP : Pf T V G R b k b2 k2 o tr2) : Pf T V G R b k (fun u => if u = v then some t else b2 u) k2 v tr := by
  obtain ⟨h1, h2, h3, h4⟩ := h
  obtain ⟨⟨t1, p1, p1a, p1b, p1c⟩, p2, p3, p4, p5⟩ := hP
  have hov := h1 o t ho
  have ht := hov.2.1
  have t2 : tr2 t = true := by rw [htr2 t, hG]; simp [ht]
  have nov : o ≠ v := fun e => by rw [e] at ho; have := h4 t ho; rw [this] at htr; cases htr
  have trf : ∀ s, tr2 s = false → tr s = false := fun s hs => by
    rw [htr2 s, Bool.or_eq_false_iff] at hs
    exact hs.1
  have b2v : b2 v = b v := by
    rcases p2 v (fun e => nov e.symm) with e | ⟨s, s2, e1, e2, e3⟩
    · exact e
    · have := h4 s e1
      rw [trf s e2] at this; cases this
  refine ⟨⟨t, if_pos rfl, ht, htr, hG⟩, fun u hu => ?_, fun s hs hts => ?_, fun s hs => ?_, p5⟩
  · show (if u = v then some t else b2 u) = b u ∨ ∃ t0 t3, b u = some t0 ∧ tr t0 = false ∧ (if u = v then some t else b2 u) = some t3 ∧ tr t3 = false ∧ t3 < T ∧ G t3 u = true
    rw [if_neg hu]
    by_cases c : u = o
    · subst c
      exact Or.inr ⟨t, t1, ho, htr, p1, trf t1 p1b, p1a, p1c⟩
    · rcases p2 u c with e | ⟨s, s2, e1, e2, e3, e4, e5, e6⟩
      · exact Or.inl e
      · exact Or.inr ⟨s, s2, e1, trf s e2, e3, trf s2 e4, e5, e6⟩
  · by_cases c : tr2 s = false
    · rw [p3 s hs c]
      refine cntB_cg (fun u hu => ?_)
      by_cases d : u = v
      · subst d
        have n1 : ¬ b2 u = some s := fun e => by
          rw [b2v] at e
          have := h4 s e
          rw [hts] at this; cases this
        have n2 : ¬ t = s := fun e => by rw [e, c] at t2; cases t2
        simp [n1, n2]
      · simp [d]
    · have c : tr2 s = true := by simpa using c
      rw [p4 s c, h3 s hs hts]
      have same : ∀ u, u ≠ v → u ≠ o → decide (b2 u = some s) = decide (b u = some s) := fun u hu1 hu2 => by
        rcases p2 u hu2 with e | ⟨s1, s2, e1, e2, e3, e4, e5⟩
        · rw [e]
        · have n1 : ¬ s1 = s := fun e => by rw [e, c] at e2; cases e2
          have n2 : ¬ s2 = s := fun e => by rw [e, c] at e4; cases e4
          rw [e1, e3]
          simp [n1, n2]
      have nt1 : ¬ t1 = s := fun e => by rw [e, c] at p1b; cases p1b
      by_cases e : t = s
      · subst e
        have q1 := cntB_one (p := fun u => decide (u ≠ v) && (decide (u ≠ o) && decide (b u = some t))) (p2 := fun u => decide (u ≠ v) && decide (b u = some t)) (i := o) (fun u hu => by simp [hu]) (by simp) (by simp [nov, ho]) V hov.1
        have q2 := cntB_one (p := fun u => decide (u ≠ v) && (decide (u ≠ o) && decide (b u = some t))) (p2 := fun u => decide ((if u = v then some t else b2 u) = some t)) (i := v) (fun u hu => by
          by_cases d : u = o
          · subst d
            simp [hu, p1, nt1]
          · have := same u hu d
            simp only [hu, if_false, this]
            simp [hu, d]) (by simp) (by simp) V hv
        exact q1.trans q2.symm
      · refine cntB_cg (fun u hu => ?_)
        by_cases d : u = v
        · subst d
          simp [e]
        · by_cases d2 : u = o
          · subst d2
            simp [d, ho, e, p1, nt1]
          · have := same u d d2
            simp only [d, if_false, this]
            simp [d]
  · exact p4 s (by rw [htr2 s, hs]; rfl)
end FINDS
