/-! dearest: gains made greater, one pair after another -/
section RELAX
variable {T V f n m k i v t x j A B : Nat} {G : Nat → Nat → Bool} {R : Nat → Nat} {w : Nat → Nat → Int} {b b2 bc : Nat → Option Nat} {U p : Nat → Int} {fr fr2 : Nat → Nat} {dT dV : Nat → Int} {lT lV : Nat → Nat} {mu lam Z X W a : Int} {o : Option Nat} {tau : Nat} {sg sg2 : Nat → Nat → Nat}
/-- gains found so far, with their bounds, and which pairs cannot make them greater -/
def ABS (T V f : Nat) (G : Nat → Nat → Bool) (w : Nat → Nat → Int) (Z : Int) (b : Nat → Option Nat) (A B : Nat) (X : Int) (sg : Nat → Nat → Nat) (dT dV : Nat → Int) (fr lT lV : Nat → Nat) : Prop :=
  BF T V f G w Z b dT dV fr lT lV ∧ (∀ t, t < T → (dT t ≠ Z → -X ≤ dT t ∧ dT t ≤ X) ∧ lT t ≤ A) ∧ (∀ v, v < V → (dV v ≠ Z → f ≤ v ∧ -X ≤ dV v ∧ dV v ≤ X) ∧ lV v ≤ B) ∧
  ∀ v t, f ≤ v → v < V → t < T → G t v = true → (b v ≠ some t → dV v ≠ Z → dV v + w t v ≤ dT t ∨ sg v t ≤ lV v) ∧ (b v = some t → dT t ≠ Z → dT t - w t v ≤ dV v ∨ sg v t ≤ lT t)
theorem ABS.mono {A2 B2 : Nat} {X2 : Int} (h : ABS T V f G w Z b A B X sg dT dV fr lT lV) (hA : A ≤ A2) (hB : B ≤ B2) (hX : X ≤ X2) (hs : ∀ v t, f ≤ v → v < V → t < T → sg2 v t ≤ sg v t) : ABS T V f G w Z b A2 B2 X2 sg2 dT dV fr lT lV := by
  obtain ⟨h1, h2, h3, h4⟩ := h
  refine ⟨h1, fun t ht => ⟨fun hd => ?_, ?_⟩, fun v hv => ⟨fun hd => ?_, ?_⟩, fun v t g1 g2 g3 g4 => ⟨fun hb hd => ?_, fun hb hd => ?_⟩⟩
  · have := (h2 t ht).1 hd; omega
  · have := (h2 t ht).2; omega
  · have := (h3 v hv).1 hd; omega
  · have := (h3 v hv).2; omega
  · have := hs v t g1 g2 g3
    rcases (h4 v t g1 g2 g3 g4).1 hb hd with e | e
    · exact Or.inl e
    · exact Or.inr (by omega)
  · have := hs v t g1 g2 g3
    rcases (h4 v t g1 g2 g3 g4).2 hb hd with e | e
    · exact Or.inl e
    · exact Or.inr (by omega)
/-- a pair that makes nothing greater -/
theorem skip_ok (h : ABS T V f G w Z b A B X sg dT dV fr lT lV) (h1 : G t v = true → b v ≠ some t → dV v ≠ Z → dV v + w t v ≤ dT t) (h2 : G t v = true → b v = some t → dT t ≠ Z → dT t - w t v ≤ dV v) (hs : ∀ u s, (u ≠ v ∨ s ≠ t) → sg2 u s ≤ sg u s) : ABS T V f G w Z b A B X sg2 dT dV fr lT lV := by
  obtain ⟨a1, a2, a3, a4⟩ := h
  refine ⟨a1, a2, a3, fun u s g1 g2 g3 g4 => ?_⟩
  by_cases c : u = v ∧ s = t
  · obtain ⟨rfl, rfl⟩ := c
    exact ⟨fun hb hd => Or.inl (h1 g4 hb hd), fun hb hd => Or.inl (h2 g4 hb hd)⟩
  · have := hs u s (by omega)
    refine ⟨fun hb hd => ?_, fun hb hd => ?_⟩
    · rcases (a4 u s g1 g2 g3 g4).1 hb hd with e | e
      · exact Or.inl e
      · exact Or.inr (by omega)
    · rcases (a4 u s g1 g2 g3 g4).2 hb hd with e | e
      · exact Or.inl e
      · exact Or.inr (by omega)
/-- a thing's gain made greater -/
theorem relaxF (hW : Way T V f G R b) (hP : PD T V f G R w b U p mu) (h : ABS T V f G w Z b A B X sg dT dV fr lT lV) (hw : ∀ v t, v < V → t < T → G t v = true → 0 ≤ w t v ∧ w t v ≤ W) (hZ : Z < -(X + W)) (hA : A ≤ tau) (hv : f ≤ v) (hv2 : v < V) (ht : t < T) (hG : G t v = true) (hb : b v ≠ some t) (hd : dV v ≠ Z) (hlt : dT t < dV v + w t v) (hsv : tau ≤ sg v t + 1) (hsg : ∀ u s, sg2 u s ≤ tau) (hs : ∀ u s, (u ≠ v ∨ s ≠ t) → sg2 u s ≤ sg u s) : ABS T V f G w Z b tau B (X + W) sg2 (upI dT t (dV v + w t v)) dV (upN fr t v) (upN lT t tau) lV := by
  obtain ⟨a1, a2, a3, a4⟩ := h
  obtain ⟨w1, w2⟩ := hw v t hv2 ht hG
  have dvb := (a3 v hv2).1 hd
  have lt := (a2 t ht).2
  have hl : tau ≤ lV v + 1 := by
    rcases (a4 v t hv hv2 ht hG).1 hb hd with e | e
    · omega
    · omega
  refine ⟨bfT hW hP a1 hv hv2 ht hG hb hd hlt (by omega) hl (by omega), fun s hs2 => ?_, fun u hu => ⟨fun hd2 => ?_, (a3 u hu).2⟩, fun u s g1 g2 g3 g4 => ?_⟩
  · by_cases c : s = t
    · subst c; rw [upI_eq, upN_eq]; exact ⟨fun _ => by omega, Nat.le_refl _⟩
    · rw [upI_ne c, upN_ne c]
      have := (a2 s hs2).2
      refine ⟨fun hd2 => ?_, by omega⟩
      have := (a2 s hs2).1 hd2
      omega
  · have := (a3 u hu).1 hd2
    omega
  · by_cases c : u = v ∧ s = t
    · obtain ⟨rfl, rfl⟩ := c
      refine ⟨fun _ _ => Or.inl (by rw [upI_eq]; exact Int.le_refl _), fun hb2 => absurd hb2 hb⟩
    · have hsu := hs u s (by omega)
      obtain ⟨q1, q2⟩ := a4 u s g1 g2 g3 g4
      refine ⟨fun hb2 hd2 => ?_, fun hb2 hd2 => ?_⟩
      · rcases q1 hb2 hd2 with e | e
        · refine Or.inl ?_
          by_cases c2 : s = t
          · subst c2; rw [upI_eq]; omega
          · rw [upI_ne c2]; exact e
        · exact Or.inr (by omega)
      · by_cases c2 : s = t
        · subst c2
          rw [upN_eq]
          exact Or.inr (hsg u s)
        · rw [upI_ne c2] at hd2 ⊢
          rw [upN_ne c2]
          rcases q2 hb2 hd2 with e | e
          · exact Or.inl e
          · exact Or.inr (by omega)
/-- a visitor's gain made greater -/
theorem relaxB (hW : Way T V f G R b) (h : ABS T V f G w Z b A B X sg dT dV fr lT lV) (hw : ∀ v t, v < V → t < T → G t v = true → 0 ≤ w t v ∧ w t v ≤ W) (hZ : Z < -(X + W)) (hB : B ≤ tau) (hv2 : v < V) (hb : b v = some t) (hd : dT t ≠ Z) (hlt : dV v < dT t - w t v) (hsv : tau ≤ sg v t + 1) (hsg : ∀ u s, sg2 u s ≤ tau) (hs : ∀ u s, (u ≠ v ∨ s ≠ t) → sg2 u s ≤ sg u s) : ABS T V f G w Z b A tau (X + W) sg2 dT (upI dV v (dT t - w t v)) fr lT (upN lV v tau) := by
  obtain ⟨a1, a2, a3, a4⟩ := h
  obtain ⟨hv, ht, hG⟩ := hW.1 v t hv2 hb
  obtain ⟨w1, w2⟩ := hw v t hv2 ht hG
  have dtb := (a2 t ht).1 hd
  have lv := (a3 v hv2).2
  have hl : tau ≤ lT t + 1 := by
    rcases (a4 v t hv hv2 ht hG).2 hb hd with e | e
    · omega
    · omega
  refine ⟨bfV a1 hv2 hb hd hlt (by omega) hl (by omega), fun s hs2 => ⟨fun hd2 => ?_, (a2 s hs2).2⟩, fun u hu => ?_, fun u s g1 g2 g3 g4 => ?_⟩
  · have := (a2 s hs2).1 hd2
    omega
  · by_cases c : u = v
    · subst c; rw [upI_eq, upN_eq]; exact ⟨fun _ => by omega, Nat.le_refl _⟩
    · rw [upI_ne c, upN_ne c]
      have := (a3 u hu).2
      refine ⟨fun hd2 => ?_, by omega⟩
      have := (a3 u hu).1 hd2
      omega
  · by_cases c : u = v ∧ s = t
    · obtain ⟨rfl, rfl⟩ := c
      refine ⟨fun hb2 => absurd hb hb2, fun _ _ => Or.inl (by rw [upI_eq]; exact Int.le_refl _)⟩
    · have hsu := hs u s (by omega)
      obtain ⟨q1, q2⟩ := a4 u s g1 g2 g3 g4
      refine ⟨fun hb2 hd2 => ?_, fun hb2 hd2 => ?_⟩
      · by_cases c2 : u = v
        · subst c2
          rw [upN_eq]
          exact Or.inr (hsg u s)
        · rw [upI_ne c2] at hd2 ⊢
          rw [upN_ne c2]
          rcases q1 hb2 hd2 with e | e
          · exact Or.inl e
          · exact Or.inr (by omega)
      · rcases q2 hb2 hd2 with e | e
        · refine Or.inl ?_
          by_cases c2 : u = v
          · subst c2; rw [upI_eq]; omega
          · rw [upI_ne c2]; exact e
        · exact Or.inr (by omega)
/-- at first -/
def d0V (V f : Nat) (Z : Int) (b : Nat → Option Nat) : Nat → Int := fun v => if f ≤ v ∧ v < V ∧ b v = none then 0 else Z
theorem abs_0 (hZ : Z < 0) : ABS T V f G w Z b 0 0 0 (fun _ _ => 0) (fun _ => Z) (d0V V f Z b) fr (fun _ => 0) (fun _ => 0) := by
  refine ⟨⟨fun v h1 h2 h3 => ⟨if_pos ⟨h1, h2, h3⟩, rfl⟩, fun v t hv hb hd => absurd ?_ hd, fun t _ hd => absurd rfl hd, fun t _ hd => absurd rfl hd⟩, fun t _ => ⟨fun hd => absurd rfl hd, Nat.le_refl _⟩, fun v hv => ⟨fun hd => ?_, Nat.le_refl _⟩, fun v t _ _ _ _ => ⟨fun _ _ => Or.inr (Nat.le_refl _), fun _ _ => Or.inr (Nat.le_refl _)⟩⟩
  · exact if_neg (fun h => by rw [h.2.2] at hb; exact nomatch hb)
  · have hc : f ≤ v ∧ v < V ∧ b v = none := Classical.byContradiction (fun h => hd (if_neg h))
    rw [show d0V V f Z b v = 0 from if_pos hc]
    exact ⟨hc.1, by omega, by omega⟩
/-- at last -/
theorem fin_ok (hW : Way T V f G R b) (h : ABS T V f G w Z b A B X sg dT dV fr lT lV) (hw : ∀ v t, v < V → t < T → G t v = true → 0 ≤ w t v ∧ w t v ≤ W) (hZ : Z < -(X + W)) (h1 : ∀ v t, f ≤ v → v < V → t < T → dV v ≠ Z → lV v < sg v t) (h2 : ∀ v t, f ≤ v → v < V → t < T → dT t ≠ Z → lT t < sg v t) : FX T V f G w Z b dT dV := by
  obtain ⟨a1, a2, a3, a4⟩ := h
  refine ⟨fun v t g1 g2 g3 g4 hb hd => ?_, fun v t g2 hb hd => ?_⟩
  · have := h1 v t g1 g2 g3 hd
    obtain ⟨w1, w2⟩ := hw v t g2 g3 g4
    have := (a3 v g2).1 hd
    rcases (a4 v t g1 g2 g3 g4).1 hb hd with e | e
    · exact ⟨by omega, e⟩
    · omega
  · obtain ⟨g1, g3, g4⟩ := hW.1 v t g2 hb
    have := h2 v t g1 g2 g3 hd
    obtain ⟨w1, w2⟩ := hw v t g2 g3 g4
    have := (a2 t g3).1 hd
    rcases (a4 v t g1 g2 g3 g4).2 hb hd with e | e
    · exact ⟨by omega, e⟩
    · omega
/-- one link of an exchange -/
theorem ex_next (h : tr b fr (n + 1) (some t)) (hD : ∀ v, bc v ≠ b v → ∃ m, n + 1 ≤ m ∧ tr b fr m (b v)) : bc (fr t) = b (fr t) ∧ tr b fr n (bc (fr t)) ∧ ∀ v, upO bc (fr t) (some t) v ≠ b v → ∃ m, n ≤ m ∧ tr b fr m (b v) := by
  have h2 : tr b fr n (b (fr t)) := h
  have e : bc (fr t) = b (fr t) := Classical.byContradiction (fun hne => by
    obtain ⟨m, m1, m2⟩ := hD _ hne
    have := tr_uq m2 h2
    omega)
  refine ⟨e, by rw [e]; exact h2, fun v hv => ?_⟩
  by_cases c : v = fr t
  · subst c; exact ⟨n, Nat.le_refl _, h2⟩
  · rw [upO_ne c] at hv
    obtain ⟨m, m1, m2⟩ := hD v hv
    exact ⟨m, by omega, m2⟩
/-- no way at all, at first -/
theorem none_way : Way T V f G R (fun _ => none) := by
  refine ⟨fun v t _ h => (nomatch h), fun t _ => ?_⟩
  have : ∀ n, cn (fun _ => none) t n = 0 := fun n => by
    induction n with
    | zero => rfl
    | succ n ih => show cn (fun _ => none) t n + (if (none : Option Nat) = some t then 1 else 0) = 0; rw [ih, if_neg (fun h => nomatch h)]
  rw [this]; exact Nat.zero_le _
theorem none_cn : cn (fun _ => none) t n = 0 := by
  induction n with
  | zero => rfl
  | succ n ih => show cn (fun _ => none) t n + (if (none : Option Nat) = some t then 1 else 0) = 0; rw [ih, if_neg (fun h => nomatch h)]
theorem none_pd (hw : ∀ v t, v < V → t < T → G t v = true → 0 ≤ w t v ∧ w t v ≤ W) (hW0 : 0 ≤ W) : PD T V f G R w (fun _ => none) (fun _ => W) (fun _ => 0) W := ⟨fun v t _ hv ht hG => by (have := hw v t hv ht hG); show w t v ≤ W + 0; omega, fun v t _ h => (nomatch h), fun t _ => ⟨Int.le_refl _, fun _ => rfl⟩, fun v _ _ => ⟨fun _ => rfl, Int.le_refl _⟩, hW0⟩
theorem none_SW : SW w (fun _ => none) V = 0 := sumI_0
/-- how many are had in all -/
def cnA (b : Nat → Option Nat) : Nat → Nat
  | 0 => 0
  | n + 1 => cnA b n + (if b n = none then 0 else 1)
theorem cnA_le : ∀ n, cnA b n ≤ n := by
  intro n
  induction n with
  | zero => exact Nat.le_refl _
  | succ n ih =>
    show cnA b n + (if b n = none then 0 else 1) ≤ n + 1
    by_cases c : b n = none
    · rw [if_pos c]; omega
    · rw [if_neg c]; omega
theorem cnA_cg {n : Nat} (h : ∀ u, u < n → b u = b2 u) : cnA b n = cnA b2 n := by
  induction n with
  | zero => rfl
  | succ n ih =>
    show cnA b n + (if b n = none then 0 else 1) = cnA b2 n + (if b2 n = none then 0 else 1)
    rw [ih (fun u hu => h u (by omega)), h n (by omega)]
theorem cnA_up : ∀ {n : Nat}, v < n → cnA (upO b v o) n + (if b v = none then 0 else 1) = cnA b n + (if o = none then 0 else 1) := by
  intro n
  induction n with
  | zero => intro h; exact absurd h (Nat.not_lt_zero _)
  | succ n ih =>
    intro h
    have e1 : cnA (upO b v o) (n + 1) = cnA (upO b v o) n + (if upO b v o n = none then 0 else 1) := rfl
    have e2 : cnA b (n + 1) = cnA b n + (if b n = none then 0 else 1) := rfl
    by_cases c : n = v
    · subst c
      rw [e1, e2, upO_eq, cnA_cg (fun u hu => upO_ne (o := o) (b := b) (v := n) (u := u) (by omega))]; omega
    · rw [e1, e2, upO_ne c]
      have := ih (by omega)
      omega
/-- one more by each exchange -/
theorem cnA_ex (hB : BF T V f G w Z b dT dV fr lT lV) (hW : Way T V f G R b) : ∀ n x bc, tr b fr n x → (∀ t, x = some t → t < T ∧ dT t ≠ Z) → (∀ v, bc v ≠ b v → ∃ m, n ≤ m ∧ tr b fr m (b v)) → cnA (exB fr n bc x) V = cnA bc V + (if x = none then 0 else 1) := by
  intro n
  induction n with
  | zero =>
    intro x bc h _ _
    have h : x = none := h
    subst h
    rw [if_pos rfl]; rfl
  | succ n ih =>
    intro x bc h hx hD
    cases x with
    | none => exact False.elim h
    | some t =>
      obtain ⟨ht, hd⟩ := hx t rfl
      obtain ⟨c1, c2, c3, c4, c5, c6, c7⟩ := hB.2.2.1 t ht hd
      obtain ⟨e1, e2, e3⟩ := ex_next h hD
      show cnA (exB fr n (upO bc (fr t) (some t)) (bc (fr t))) V = _
      rw [ih _ _ e2 (fun y hy => by
        rw [e1] at hy
        exact ⟨(hW.1 _ _ c2 hy).2.1, (hB.2.1 _ _ c2 hy c5).1⟩) e3]
      have := cnA_up (b := bc) (v := fr t) (o := some t) c2
      rw [if_neg (show ¬ (some t : Option Nat) = none from fun h => nomatch h)] at this
      rw [if_neg (show ¬ (some t : Option Nat) = none from fun h => nomatch h)]
      exact this
end RELAX
