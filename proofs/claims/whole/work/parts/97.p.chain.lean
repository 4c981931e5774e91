/-! dearest: chains of exchanges -/
section CHAIN
variable {T V f n m k i v t x j : Nat} {G : Nat → Nat → Bool} {R : Nat → Nat} {w : Nat → Nat → Int} {b b2 bc : Nat → Option Nat} {U p : Nat → Int} {fr fr2 : Nat → Nat} {dT dV : Nat → Int} {lT lV : Nat → Nat} {mu lam Z a : Int} {o : Option Nat} {tau : Nat}
/-- the chain from here ends behind so many things -/
def tr (b : Nat → Option Nat) (fr : Nat → Nat) : Nat → Option Nat → Prop
  | 0, o => o = none
  | _ + 1, none => False
  | n + 1, some t => tr b fr n (b (fr t))
theorem tr_uq : ∀ {n m : Nat} {o : Option Nat}, tr b fr n o → tr b fr m o → n = m := by
  intro n
  induction n with
  | zero =>
    intro m o h1 h2
    have h1 : o = none := h1
    subst h1
    cases m with
    | zero => rfl
    | succ m => exact False.elim h2
  | succ n ih =>
    intro m o h1 h2
    cases o with
    | none => exact False.elim h1
    | some t =>
      cases m with
      | zero => exact nomatch (show some t = none from h2)
      | succ m =>
        have : n = m := ih (o := b (fr t)) h1 h2
        omega
/-- prices of a way -/
def PD (T V f : Nat) (G : Nat → Nat → Bool) (R : Nat → Nat) (w : Nat → Nat → Int) (b : Nat → Option Nat) (U p : Nat → Int) (mu : Int) : Prop :=
  (∀ v t, f ≤ v → v < V → t < T → G t v = true → w t v ≤ U v + p t) ∧ (∀ v t, v < V → b v = some t → w t v = U v + p t) ∧ (∀ t, t < T → 0 ≤ p t ∧ (cn b t V < R t → p t = 0)) ∧ (∀ v, f ≤ v → v < V → (b v = none → U v = mu) ∧ mu ≤ U v) ∧ 0 ≤ mu
/-- gains found so far -/
def BF (T V f : Nat) (G : Nat → Nat → Bool) (w : Nat → Nat → Int) (Z : Int) (b : Nat → Option Nat) (dT dV : Nat → Int) (fr lT lV : Nat → Nat) : Prop :=
  (∀ v, f ≤ v → v < V → b v = none → dV v = 0 ∧ lV v = 0) ∧
  (∀ v t, v < V → b v = some t → dV v ≠ Z → dT t ≠ Z ∧ dV v ≤ dT t - w t v ∧ lV v ≤ lT t + 1) ∧
  (∀ t, t < T → dT t ≠ Z → f ≤ fr t ∧ fr t < V ∧ G t (fr t) = true ∧ b (fr t) ≠ some t ∧ dV (fr t) ≠ Z ∧ dT t ≤ dV (fr t) + w t (fr t) ∧ lT t ≤ lV (fr t) + 1) ∧
  (∀ t, t < T → dT t ≠ Z → ∃ n, tr b fr n (some t))
def upI (d : Nat → Int) (t : Nat) (x : Int) : Nat → Int := fun u => if u = t then x else d u
def upN (d : Nat → Nat) (t : Nat) (x : Nat) : Nat → Nat := fun u => if u = t then x else d u
theorem upI_eq {d : Nat → Int} {x : Int} : upI d t x t = x := if_pos rfl
theorem upI_ne {d : Nat → Int} {x : Int} {u : Nat} (h : u ≠ t) : upI d t x u = d u := if_neg h
theorem upN_eq {d : Nat → Nat} {x : Nat} : upN d t x t = x := if_pos rfl
theorem upN_ne {d : Nat → Nat} {x : Nat} {u : Nat} (h : u ≠ t) : upN d t x u = d u := if_neg h
/-- one thing up the chain: gains less prices are no less -/
theorem up1 (hW : Way T V f G R b) (hP : PD T V f G R w b U p mu) (hB : BF T V f G w Z b dT dV fr lT lV) (ht : t < T) (hd : dT t ≠ Z) (hb : b (fr t) = some x) : x < T ∧ dT x ≠ Z ∧ dT t - p t ≤ dT x - p x := by
  obtain ⟨b1, b2, b3, b4⟩ := hB
  obtain ⟨c1, c2, c3, c4, c5, c6, c7⟩ := b3 t ht hd
  obtain ⟨d1, d2, d3⟩ := b2 _ _ c2 hb c5
  obtain ⟨w1, w2, w3⟩ := hW.1 _ _ c2 hb
  have e1 := hP.1 _ _ c1 c2 ht c3
  have e2 := hP.2.1 _ _ c2 hb
  exact ⟨w2, d1, by omega⟩
/-- a chain that does not meet t stays when t's is told anew -/
theorem tr_keep (hW : Way T V f G R b) (hP : PD T V f G R w b U p mu) (hB : BF T V f G w Z b dT dV fr lT lV) (hf : ∀ y, y ≠ t → fr2 y = fr y) : ∀ n o, tr b fr n o → (∀ y, o = some y → y < T ∧ dT y ≠ Z ∧ (dT t = Z ∨ dT t - p t < dT y - p y)) → tr b fr2 n o := by
  intro n
  induction n with
  | zero => intro o h _; exact h
  | succ n ih =>
    intro o h hy
    cases o with
    | none => exact False.elim h
    | some y =>
      obtain ⟨y1, y2, y3⟩ := hy y rfl
      have hne : y ≠ t := fun e => by
        subst e
        rcases y3 with y3 | y3
        · exact y2 y3
        · omega
      show tr b fr2 n (b (fr2 y))
      rw [hf y hne]
      refine ih _ h (fun z hz => ?_)
      obtain ⟨z1, z2, z3⟩ := up1 hW hP hB y1 y2 hz
      refine ⟨z1, z2, ?_⟩
      rcases y3 with y3 | y3
      · exact Or.inl y3
      · exact Or.inr (by omega)
/-- a thing is reached better -/
theorem bfT (hW : Way T V f G R b) (hP : PD T V f G R w b U p mu) (hB : BF T V f G w Z b dT dV fr lT lV) (hv : f ≤ v) (hv2 : v < V) (ht : t < T) (hG : G t v = true) (hb : b v ≠ some t) (hd : dV v ≠ Z) (hlt : dT t < dV v + w t v) (hz : dV v + w t v ≠ Z) (hl : tau ≤ lV v + 1) (hl2 : lT t ≤ tau) : BF T V f G w Z b (upI dT t (dV v + w t v)) dV (upN fr t v) (upN lT t tau) lV := by
  have hB0 := hB
  obtain ⟨b1, b2, b3, b4⟩ := hB
  -- v's own chain
  have own : ∃ n, tr b (upN fr t v) n (b v) := by
    cases hbv : b v with
    | none => exact ⟨0, rfl⟩
    | some y =>
      obtain ⟨d1, d2, d3⟩ := b2 _ _ hv2 hbv hd
      obtain ⟨w1, w2, w3⟩ := hW.1 _ _ hv2 hbv
      obtain ⟨n, hn⟩ := b4 y w2 d1
      have e1 := hP.1 _ _ hv hv2 ht hG
      have e2 := hP.2.1 _ _ hv2 hbv
      refine ⟨n, tr_keep hW hP hB0 (t := t) (fun z hz => upN_ne hz) n _ hn (fun z hz => ?_)⟩
      cases hz
      exact ⟨w2, d1, Or.inr (by omega)⟩
  have new : ∃ n, tr b (upN fr t v) n (some t) := by
    obtain ⟨n, hn⟩ := own
    exact ⟨n + 1, by show tr b (upN fr t v) n (b (upN fr t v t)); rw [upN_eq]; exact hn⟩
  refine ⟨b1, fun u s hu hs hd2 => ?_, fun s hs hd2 => ?_, fun s hs hd2 => ?_⟩
  · obtain ⟨d1, d2, d3⟩ := b2 u s hu hs hd2
    by_cases c : s = t
    · subst c; rw [upI_eq, upN_eq]; exact ⟨hz, by omega, by omega⟩
    · rw [upI_ne c, upN_ne c]; exact ⟨d1, d2, d3⟩
  · by_cases c : s = t
    · subst c; rw [upI_eq, upN_eq, upN_eq]; exact ⟨hv, hv2, hG, hb, hd, Int.le_refl _, hl⟩
    · rw [upI_ne c] at hd2
      rw [upI_ne c, upN_ne c, upN_ne c]; exact b3 s hs hd2
  · by_cases c : s = t
    · subst c; exact new
    · rw [upI_ne c] at hd2
      obtain ⟨n, hn⟩ := b4 s hs hd2
      have all : ∀ n o, tr b fr n o → ∃ n2, tr b (upN fr t v) n2 o := by
        intro n
        induction n with
        | zero => intro o h; exact ⟨0, h⟩
        | succ n ih =>
          intro o h
          cases o with
          | none => exact False.elim h
          | some y =>
            by_cases e : y = t
            · subst e; exact new
            · obtain ⟨n2, h2⟩ := ih _ (show tr b fr n (b (fr y)) from h)
              exact ⟨n2 + 1, by show tr b (upN fr t v) n2 (b (upN fr t v y)); rw [upN_ne e]; exact h2⟩
      exact all n _ hn
/-- a visitor is reached better -/
theorem bfV (hB : BF T V f G w Z b dT dV fr lT lV) (hv : v < V) (hb : b v = some t) (hd : dT t ≠ Z) (hlt : dV v < dT t - w t v) (hz : dT t - w t v ≠ Z) (hl : tau ≤ lT t + 1) (hl2 : lV v ≤ tau) : BF T V f G w Z b dT (upI dV v (dT t - w t v)) fr lT (upN lV v tau) := by
  obtain ⟨b1, b2, b3, b4⟩ := hB
  refine ⟨fun u hu1 hu2 hu => ?_, fun u s hu hs hd2 => ?_, fun s hs hd2 => ?_, b4⟩
  · have c : u ≠ v := fun e => by subst e; rw [hu] at hb; exact nomatch hb
    rw [upI_ne c, upN_ne c]; exact b1 u hu1 hu2 hu
  · by_cases c : u = v
    · subst c
      have : t = s := Option.some.inj (hb.symm.trans hs)
      subst this
      rw [upI_eq, upN_eq]; exact ⟨hd, Int.le_refl _, hl⟩
    · rw [upI_ne c] at hd2 ⊢
      rw [upN_ne c]; exact b2 u s hu hs hd2
  · obtain ⟨c1, c2, c3, c4, c5, c6, c7⟩ := b3 s hs hd2
    by_cases c : fr s = v
    · rw [c] at c1 c2 c3 c4 c5 c6 c7 ⊢
      rw [upI_eq, upN_eq]; exact ⟨c1, c2, c3, c4, hz, by omega, by omega⟩
    · rw [upI_ne c, upN_ne c]; exact ⟨c1, c2, c3, c4, c5, c6, c7⟩
/-- no gain can be made greater -/
def FX (T V f : Nat) (G : Nat → Nat → Bool) (w : Nat → Nat → Int) (Z : Int) (b : Nat → Option Nat) (dT dV : Nat → Int) : Prop :=
  (∀ v t, f ≤ v → v < V → t < T → G t v = true → b v ≠ some t → dV v ≠ Z → dT t ≠ Z ∧ dV v + w t v ≤ dT t) ∧ (∀ v t, v < V → b v = some t → dT t ≠ Z → dV v ≠ Z ∧ dT t - w t v ≤ dV v)
-- the lengths of chains
theorem tr_j (hW : Way T V f G R b) (hB : BF T V f G w Z b dT dV fr lT lV) : ∀ n t, t < T → dT t ≠ Z → tr b fr n (some t) → ∀ j, j < n → (∃ x, x < T ∧ tr b fr (j + 1) (some x)) ∧ ∃ v, v < V ∧ tr b fr j (b v) := by
  intro n
  induction n with
  | zero => intro t _ _ _ j hj; exact absurd hj (Nat.not_lt_zero _)
  | succ n ih =>
    intro t ht hd h j hj
    obtain ⟨c1, c2, c3, c4, c5, c6, c7⟩ := hB.2.2.1 t ht hd
    have h2 : tr b fr n (b (fr t)) := h
    by_cases c : j = n
    · subst c; exact ⟨⟨t, ht, h⟩, _, c2, h2⟩
    · cases hb : b (fr t) with
      | none =>
        rw [hb] at h2
        have : n = 0 := tr_uq h2 (show tr b fr 0 none from rfl)
        omega
      | some y =>
        rw [hb] at h2
        obtain ⟨d1, -, -⟩ := hB.2.1 _ _ c2 hb c5
        exact ih y (hW.1 _ _ c2 hb).2.1 d1 h2 j (by omega)
theorem tr_len (hW : Way T V f G R b) (hB : BF T V f G w Z b dT dV fr lT lV) (ht : t < T) (hd : dT t ≠ Z) (h : tr b fr n (some t)) : n ≤ T ∧ n ≤ V := by
  have key := tr_j hW hB n t ht hd h
  refine ⟨pigeon (P := fun j x => tr b fr (j + 1) (some x)) (fun j hj => (key j hj).1) (fun i j v _ _ p1 p2 => ?_), pigeon (P := fun j v => tr b fr j (b v)) (fun j hj => (key j hj).2) (fun i j v _ _ p1 p2 => tr_uq p1 p2)⟩
  have := tr_uq p1 p2
  omega
theorem lab (hW : Way T V f G R b) (hB : BF T V f G w Z b dT dV fr lT lV) : ∀ n t, t < T → dT t ≠ Z → tr b fr n (some t) → lT t + 1 ≤ 2 * n := by
  intro n
  induction n with
  | zero => intro t _ _ h; exact nomatch (show some t = none from h)
  | succ n ih =>
    intro t ht hd h
    obtain ⟨c1, c2, c3, c4, c5, c6, c7⟩ := hB.2.2.1 t ht hd
    have h2 : tr b fr n (b (fr t)) := h
    cases hb : b (fr t) with
    | none => have := (hB.1 _ c1 c2 hb).2; omega
    | some y =>
      rw [hb] at h2
      obtain ⟨d1, d2, d3⟩ := hB.2.1 _ _ c2 hb c5
      have := ih y (hW.1 _ _ c2 hb).2.1 d1 h2
      omega
/-- how late a gain can be made greater -/
theorem late (hW : Way T V f G R b) (hB : BF T V f G w Z b dT dV fr lT lV) : (∀ t, t < T → dT t ≠ Z → lT t + 1 ≤ 2 * T ∧ lT t + 1 ≤ 2 * V) ∧ ∀ v, f ≤ v → v < V → dV v ≠ Z → lV v ≤ 2 * T ∧ lV v ≤ 2 * V := by
  have hT : ∀ t, t < T → dT t ≠ Z → lT t + 1 ≤ 2 * T ∧ lT t + 1 ≤ 2 * V := fun t ht hd => by
    obtain ⟨n, hn⟩ := hB.2.2.2 t ht hd
    obtain ⟨l1, l2⟩ := tr_len hW hB ht hd hn
    have := lab hW hB n t ht hd hn
    omega
  refine ⟨hT, fun v h1 h2 hd => ?_⟩
  cases hb : b v with
  | none => have := (hB.1 v h1 h2 hb).2; omega
  | some t =>
    obtain ⟨d1, d2, d3⟩ := hB.2.1 v t h2 hb hd
    have := hT t (hW.1 v t h2 hb).2.1 d1
    omega
/-- all along a chain -/
def exB (fr : Nat → Nat) : Nat → (Nat → Option Nat) → Option Nat → (Nat → Option Nat)
  | 0, b, _ => b
  | _ + 1, b, none => b
  | n + 1, b, some t => exB fr n (upO b (fr t) (some t)) (b (fr t))
def KO (T : Nat) (Z : Int) (dT p : Nat → Int) (lam : Int) (t : Nat) : Prop := t < T ∧ dT t ≠ Z ∧ lam ≤ dT t - p t
theorem exch_ok (hW : Way T V f G R b) (hP : PD T V f G R w b U p mu) (hB : BF T V f G w Z b dT dV fr lT lV) (hX : FX T V f G w Z b dT dV) : ∀ n x bc, tr b fr n x → (∀ t, x = some t → KO T Z dT p lam t) → (∀ v, bc v ≠ b v → ∃ m, n ≤ m ∧ tr b fr m (b v)) → SW w (exB fr n bc x) V = SW w bc V + po dT x ∧ (∀ s, cn (exB fr n bc x) s V = cn bc s V + (if x = some s then 1 else 0)) ∧ ∀ v, (exB fr n bc x v = none → bc v = none) ∧ ∀ t, exB fr n bc x v = some t → bc v = some t ∨ (v = fr t ∧ KO T Z dT p lam t) := by
  intro n
  induction n with
  | zero =>
    intro x bc h hx hD
    have h : x = none := h
    subst h
    refine ⟨by show SW w bc V = SW w bc V + 0; omega, fun s => by rw [if_neg (fun h => nomatch h)]; rfl, fun v => ⟨fun h => h, fun t h => Or.inl h⟩⟩
  | succ n ih =>
    intro x bc h hx hD
    cases x with
    | none => exact False.elim h
    | some t =>
      have hK := hx t rfl
      obtain ⟨k1, k2, k3⟩ := hK
      obtain ⟨c1, c2, c3, c4, c5, c6, c7⟩ := hB.2.2.1 t k1 k2
      have h2 : tr b fr n (b (fr t)) := h
      have hbc : bc (fr t) = b (fr t) := Classical.byContradiction (fun hne => by
        obtain ⟨m, m1, m2⟩ := hD _ hne
        have := tr_uq m2 h2
        omega)
      have hx1 : ∀ y, b (fr t) = some y → KO T Z dT p lam y := fun y hy => by
        obtain ⟨z1, z2, z3⟩ := up1 hW hP hB k1 k2 hy
        exact ⟨z1, z2, by omega⟩
      obtain ⟨i1, i2, i3⟩ := ih (b (fr t)) (upO bc (fr t) (some t)) h2 hx1 (fun u hu => by
        by_cases c : u = fr t
        · subst c; exact ⟨n, Nat.le_refl _, h2⟩
        · rw [upO_ne c] at hu
          obtain ⟨m, m1, m2⟩ := hD u hu
          exact ⟨m, by omega, m2⟩)
      have hex : exB fr (n + 1) bc (some t) = exB fr n (upO bc (fr t) (some t)) (b (fr t)) := by
        show exB fr n (upO bc (fr t) (some t)) (bc (fr t)) = _
        rw [hbc]
      rw [hex]
      have x1 := (hX.1 _ _ c1 c2 k1 c3 c4 c5).2
      refine ⟨?_, fun s => ?_, fun u => ⟨fun hu => ?_, fun s hs => ?_⟩⟩
      · rw [i1, SW_up c2, hbc]
        show SW w bc V - wo w (b (fr t)) (fr t) + w t (fr t) + po dT (b (fr t)) = SW w bc V + dT t
        cases hb : b (fr t) with
        | none =>
          have := (hB.1 _ c1 c2 hb).1
          show SW w bc V - 0 + w t (fr t) + 0 = SW w bc V + dT t
          omega
        | some y =>
          obtain ⟨d1, d2, d3⟩ := hB.2.1 _ _ c2 hb c5
          have := (hX.2 _ _ c2 hb d1).2
          show SW w bc V - w y (fr t) + w t (fr t) + dT y = SW w bc V + dT t
          omega
      · rw [i2]
        have := cn_up (b := bc) (o := some t) (t := s) c2
        rw [hbc] at this
        omega
      · have hu2 := (i3 u).1 hu
        by_cases c : u = fr t
        · subst c; rw [upO_eq] at hu2; exact nomatch hu2
        · rw [upO_ne c] at hu2; exact hu2
      · rcases (i3 u).2 s hs with h3 | h3
        · by_cases c : u = fr t
          · subst c
            rw [upO_eq] at h3
            cases h3
            exact Or.inr ⟨rfl, k1, k2, k3⟩
          · rw [upO_ne c] at h3; exact Or.inl h3
        · exact Or.inr h3
/-- the new prices -/
def nP (Z : Int) (dT p : Nat → Int) (lam : Int) : Nat → Int := fun t => if dT t = Z then p t else if p t ≤ dT t - lam then dT t - lam else p t
def nU (Z : Int) (dV U : Nat → Int) (lam : Int) : Nat → Int := fun v => if dV v = Z then U v else if U v ≤ lam - dV v then U v else lam - dV v
theorem nP_z (h : dT t = Z) : nP Z dT p lam t = p t := if_pos h
theorem nP_a (h : dT t ≠ Z) (h2 : p t ≤ dT t - lam) : nP Z dT p lam t = dT t - lam := by unfold nP; rw [if_neg h, if_pos h2]
theorem nP_b (h : dT t ≠ Z) (h2 : ¬ p t ≤ dT t - lam) : nP Z dT p lam t = p t := by unfold nP; rw [if_neg h, if_neg h2]
theorem nU_z (h : dV v = Z) : nU Z dV U lam v = U v := if_pos h
theorem nU_a (h : dV v ≠ Z) (h2 : U v ≤ lam - dV v) : nU Z dV U lam v = U v := by unfold nU; rw [if_neg h, if_pos h2]
theorem nU_b (h : dV v ≠ Z) (h2 : ¬ U v ≤ lam - dV v) : nU Z dV U lam v = lam - dV v := by unfold nU; rw [if_neg h, if_neg h2]
/-- gains less prices are at most mu -/
theorem le_mu (hW : Way T V f G R b) (hP : PD T V f G R w b U p mu) (hB : BF T V f G w Z b dT dV fr lT lV) : (∀ n t, t < T → dT t ≠ Z → tr b fr n (some t) → dT t - p t ≤ mu) ∧ ∀ v, f ≤ v → v < V → dV v ≠ Z → dV v + U v ≤ mu := by
  have hT : ∀ n t, t < T → dT t ≠ Z → tr b fr n (some t) → dT t - p t ≤ mu := by
    intro n
    induction n with
    | zero => intro t _ _ h; exact nomatch (show some t = none from h)
    | succ n ih =>
      intro t ht hd h
      obtain ⟨c1, c2, c3, c4, c5, c6, c7⟩ := hB.2.2.1 t ht hd
      have h2 : tr b fr n (b (fr t)) := h
      cases hb : b (fr t) with
      | none =>
        have e1 := (hB.1 _ c1 c2 hb).1
        have e2 := hP.1 _ _ c1 c2 ht c3
        have e3 := (hP.2.2.2.1 _ c1 c2).1 hb
        omega
      | some y =>
        rw [hb] at h2
        obtain ⟨z1, z2, z3⟩ := up1 hW hP hB ht hd hb
        have := ih y z1 z2 h2
        omega
  refine ⟨hT, fun v h1 h2 hd => ?_⟩
  cases hb : b v with
  | none =>
    have e1 := (hB.1 _ h1 h2 hb).1
    have e3 := (hP.2.2.2.1 _ h1 h2).1 hb
    omega
  | some t =>
    obtain ⟨d1, d2, d3⟩ := hB.2.1 v t h2 hb hd
    have ht := (hW.1 v t h2 hb).2.1
    obtain ⟨n, hn⟩ := hB.2.2.2 t ht d1
    have := hT n t ht d1 hn
    have e2 := hP.2.1 _ _ h2 hb
    omega
/-- what the new prices are -/
theorem new_pr (hW : Way T V f G R b) (hP : PD T V f G R w b U p mu) (hB : BF T V f G w Z b dT dV fr lT lV) (hX : FX T V f G w Z b dT dV) (hl : lam ≤ mu) (hfree : ∀ t, t < T → cn b t V < R t → dT t ≠ Z → dT t ≤ lam) :
    (∀ v t, f ≤ v → v < V → t < T → G t v = true → w t v ≤ nU Z dV U lam v + nP Z dT p lam t) ∧ (∀ v t, v < V → b v = some t → w t v = nU Z dV U lam v + nP Z dT p lam t) ∧ (∀ t, t < T → 0 ≤ nP Z dT p lam t ∧ (cn b t V < R t → nP Z dT p lam t = 0)) ∧ (∀ v, f ≤ v → v < V → ((b v = none → Z ≠ 0 → nU Z dV U lam v = lam) ∧ lam ≤ nU Z dV U lam v)) ∧ ∀ t, KO T Z dT p lam t → w t (fr t) = nU Z dV U lam (fr t) + nP Z dT p lam t := by
  obtain ⟨p1, p2, p3, p4, p5⟩ := hP
  have hP0 : PD T V f G R w b U p mu := ⟨p1, p2, p3, p4, p5⟩
  have tight : ∀ v t, v < V → b v = some t → w t v = nU Z dV U lam v + nP Z dT p lam t := fun v t hv hb => by
    have e := p2 v t hv hb
    by_cases c : dV v = Z
    · have ct : dT t = Z := Classical.byContradiction (fun h => (hX.2 v t hv hb h).1 c)
      rw [nU_z c, nP_z ct]; exact e
    · obtain ⟨d1, d2, d3⟩ := hB.2.1 v t hv hb c
      have d4 := (hX.2 v t hv hb d1).2
      by_cases g : p t ≤ dT t - lam
      · by_cases g2 : U v ≤ lam - dV v
        · rw [nP_a d1 g, nU_a c g2]; omega
        · rw [nP_a d1 g, nU_b c g2]; omega
      · rw [nP_b d1 g, nU_a c (by omega)]; omega
  have leP : ∀ t, p t ≤ nP Z dT p lam t ∧ (dT t ≠ Z → dT t - lam ≤ nP Z dT p lam t) := fun t => by
    by_cases c : dT t = Z
    · rw [nP_z c]; exact ⟨Int.le_refl _, fun h => absurd c h⟩
    · by_cases g : p t ≤ dT t - lam
      · rw [nP_a c g]; exact ⟨g, fun _ => Int.le_refl _⟩
      · rw [nP_b c g]; exact ⟨Int.le_refl _, fun _ => by omega⟩
  refine ⟨fun v t h1 h2 h3 h4 => ?_, tight, fun t ht => ⟨?_, fun hc => ?_⟩, fun v h1 h2 => ⟨fun hb hz => ?_, ?_⟩, fun t hK => ?_⟩
  · by_cases c0 : b v = some t
    · exact Int.le_of_eq (tight v t h2 c0)
    · have e := p1 v t h1 h2 h3 h4
      obtain ⟨l1, l2⟩ := leP t
      by_cases c : dV v = Z
      · rw [nU_z c]; omega
      · obtain ⟨x1, x2⟩ := hX.1 v t h1 h2 h3 h4 c0 c
        have := l2 x1
        by_cases g2 : U v ≤ lam - dV v
        · rw [nU_a c g2]; omega
        · rw [nU_b c g2]; omega
  · have := (leP t).1
    have := (p3 t ht).1
    omega
  · have h0 := (p3 t ht).2 hc
    by_cases c : dT t = Z
    · rw [nP_z c]; exact h0
    · have := hfree t ht hc c
      by_cases g : p t ≤ dT t - lam
      · rw [nP_a c g]; omega
      · rw [nP_b c g]; exact h0
  · have e1 := (hB.1 v h1 h2 hb).1
    have e2 := (p4 v h1 h2).1 hb
    by_cases g2 : U v ≤ lam - dV v
    · rw [nU_a (by omega) g2]; omega
    · rw [nU_b (by omega) g2]; omega
  · have e2 := (p4 v h1 h2).2
    by_cases c : dV v = Z
    · rw [nU_z c]; omega
    · have := (le_mu hW hP0 hB).2 v h1 h2 c
      by_cases g2 : U v ≤ lam - dV v
      · rw [nU_a c g2]; omega
      · rw [nU_b c g2]; omega
  · obtain ⟨k1, k2, k3⟩ := hK
    obtain ⟨c1, c2, c3, c4, c5, c6, c7⟩ := hB.2.2.1 t k1 k2
    have x1 := (hX.1 _ _ c1 c2 k1 c3 c4 c5).2
    have e := p1 _ _ c1 c2 k1 c3
    rw [nP_a k2 (by omega)]
    by_cases g2 : U (fr t) ≤ lam - dV (fr t)
    · rw [nU_a c5 g2]; omega
    · rw [nU_b c5 g2]; omega
/-- one exchange -/
theorem step_ok (hW : Way T V f G R b) (hP : PD T V f G R w b U p mu) (hB : BF T V f G w Z b dT dV fr lT lV) (hX : FX T V f G w Z b dT dV) (hZ : Z < 0) (ht : t < T) (hc : cn b t V < R t) (hd : dT t ≠ Z) (h0 : 0 < dT t) (hbest : ∀ s, s < T → cn b s V < R s → dT s ≠ Z → dT s ≤ dT t) (hn : tr b fr n (some t)) : SW w (exB fr n b (some t)) V = SW w b V + dT t ∧ (∀ s, cn (exB fr n b (some t)) s V = cn b s V + (if s = t then 1 else 0)) ∧ Way T V f G R (exB fr n b (some t)) ∧ ∃ U2 p2, PD T V f G R w (exB fr n b (some t)) U2 p2 (dT t) := by
  have hp0 := (hP.2.2.1 t ht).2 hc
  have hlm : dT t ≤ mu := by
    have := (le_mu hW hP hB).1 n t ht hd hn
    omega
  obtain ⟨e1, e2, e3⟩ := exch_ok (lam := dT t) hW hP hB hX n (some t) b hn (fun s hs => by cases hs; exact ⟨ht, hd, by omega⟩) (fun v hv => absurd rfl hv)
  obtain ⟨n1, n2, n3, n4, n5⟩ := new_pr (lam := dT t) hW hP hB hX hlm hbest
  have e2' : ∀ s, cn (exB fr n b (some t)) s V = cn b s V + (if s = t then 1 else 0) := fun s => by
    rw [e2]
    by_cases c : s = t
    · subst c; rw [if_pos rfl, if_pos rfl]
    · rw [if_neg (fun h => c (Option.some.inj h).symm), if_neg c]
  refine ⟨e1, e2', ⟨fun v s hv hs => ?_, fun s hs => ?_⟩, nU Z dV U (dT t), nP Z dT p (dT t), n1, fun v s hv hs => ?_, fun s hs => ⟨(n3 s hs).1, fun hcs => ?_⟩, fun v h1 h2 => ⟨fun hb => (n4 v h1 h2).1 ((e3 v).1 hb) (by omega), (n4 v h1 h2).2⟩, by omega⟩
  · rcases (e3 v).2 s hs with h | ⟨h1, h2, h3, h4⟩
    · exact hW.1 v s hv h
    · obtain ⟨c1, c2, c3, c4, c5, c6, c7⟩ := hB.2.2.1 s h2 h3
      rw [h1]; exact ⟨c1, h2, c3⟩
  · rw [e2']
    by_cases c : s = t
    · subst c; rw [if_pos rfl]; omega
    · rw [if_neg c]; exact hW.2 s hs
  · rcases (e3 v).2 s hs with h | ⟨h1, h2⟩
    · exact n2 v s hv h
    · rw [h1]; exact n5 s h2
  · refine (n3 s hs).2 ?_
    rw [e2'] at hcs
    omega
/-- the last one: no way is better -/
theorem end_ok (hW : Way T V f G R b) (hP : PD T V f G R w b U p mu) (hB : BF T V f G w Z b dT dV fr lT lV) (hX : FX T V f G w Z b dT dV) (hZ : Z < 0) (hno : ∀ s, s < T → cn b s V < R s → dT s ≠ Z → dT s ≤ 0) : ∀ b2, Way T V f G R b2 → SW w b2 V ≤ SW w b V := by
  intro b2 h2
  obtain ⟨n1, n2, n3, n4, n5⟩ := new_pr (lam := 0) hW hP hB hX hP.2.2.2.2 hno
  have d1 := dual (U := nU Z dV U 0) (p := nP Z dT p 0) (fun t ht => (n3 t ht).1) (fun v h1 h2 => (n4 v h1 h2).2) n1 h2
  have d2 := dual_eq (f := f) (U := nU Z dV U 0) (p := nP Z dT p 0) n2 (fun v h1 h2 hb => (n4 v h1 h2).1 hb (by omega)) (fun t ht hc => (n3 t ht).2 hc) hW
  omega
end CHAIN
