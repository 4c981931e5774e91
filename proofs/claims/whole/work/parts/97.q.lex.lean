/-! dearest: the first of the dearest ways -/
section LEX
variable {T V f n k i v t x j : Nat} {G : Nat → Nat → Bool} {R rho rho2 : Nat → Nat} {w : Nat → Nat → Int} {b b2 b3 : Nat → Option Nat} {o : Option Nat} {r left : Int} {l : Nat → Nat → Nat}
def jnW (b b2 : Nat → Option Nat) (f : Nat) : Nat → Option Nat := fun u => if u < f then b u else b2 u
def ctW (b : Nat → Option Nat) (f : Nat) : Nat → Option Nat := fun u => if u < f then none else b u
theorem jn_SW (h0 : ∀ u, u < f → b2 u = none) : ∀ k, SW w (jnW b b2 f) (f + k) = SW w b f + SW w b2 (f + k) := by
  intro k
  induction k with
  | zero =>
    have e1 : SW w (jnW b b2 f) f = SW w b f := SW_cg (fun u hu => if_pos hu)
    have e2 : SW w b2 f = 0 := by
      have : SW w b2 f = SW w (fun _ => none) f := SW_cg h0
      rw [this]; exact sumI_0
    rw [Nat.add_zero, e1, e2]; omega
  | succ k ih =>
    show SW w (jnW b b2 f) (f + k) + wo w (jnW b b2 f (f + k)) (f + k) = SW w b f + (SW w b2 (f + k) + wo w (b2 (f + k)) (f + k))
    rw [ih, show jnW b b2 f (f + k) = b2 (f + k) from if_neg (by omega)]; omega
theorem jn_cn (h0 : ∀ u, u < f → b2 u = none) : ∀ k, cn (jnW b b2 f) t (f + k) = cn b t f + cn b2 t (f + k) := by
  intro k
  induction k with
  | zero =>
    have e1 : cn (jnW b b2 f) t f = cn b t f := cn_cg (fun u hu => if_pos hu)
    have e2 : cn b2 t f = 0 := by
      have : cn b2 t f = cn (fun _ => none) t f := cn_cg h0
      rw [this]
      have z : ∀ n, cn (fun _ => none) t n = 0 := fun n => by
        induction n with
        | zero => rfl
        | succ n ih => show cn (fun _ => none) t n + (if (none : Option Nat) = some t then 1 else 0) = 0; rw [ih, if_neg (fun h => nomatch h)]
      exact z f
    rw [Nat.add_zero, e1, e2]; rfl
  | succ k ih =>
    show cn (jnW b b2 f) t (f + k) + (if jnW b b2 f (f + k) = some t then 1 else 0) = cn b t f + (cn b2 t (f + k) + (if b2 (f + k) = some t then 1 else 0))
    rw [ih, show jnW b b2 f (f + k) = b2 (f + k) from if_neg (by omega)]; omega
theorem way_0 (h : Way T V f G R b) (hf : f ≤ V) : ∀ u, u < f → b u = none := fun u hu => by
  cases hb : b u with
  | none => rfl
  | some t => have := (h.1 u t (by omega) hb).1; omega
theorem join_way (hpre : ∀ u t, u < f → b u = some t → t < T ∧ G t u = true) (h2 : Way T V f G rho b2) (hc : ∀ t, t < T → cn b t f + rho t ≤ R t) (hf : f ≤ V) : Way T V 0 G R (jnW b b2 f) ∧ SW w (jnW b b2 f) V = SW w b f + SW w b2 V := by
  have h0 := way_0 h2 hf
  obtain ⟨k, rfl⟩ : ∃ k, V = f + k := ⟨V - f, by omega⟩
  refine ⟨⟨fun u t hu hb => ?_, fun t ht => ?_⟩, jn_SW h0 k⟩
  · by_cases c : u < f
    · rw [show jnW b b2 f u = b u from if_pos c] at hb
      exact ⟨Nat.zero_le _, hpre u t c hb⟩
    · rw [show jnW b b2 f u = b2 u from if_neg c] at hb
      exact ⟨Nat.zero_le _, (h2.1 u t hu hb).2⟩
  · rw [jn_cn h0 k]
    have := h2.2 t ht
    have := hc t ht
    omega
theorem cut_way (h : Way T V 0 G R b) (hf : f ≤ V) : (∀ rho, (∀ t, t < T → R t ≤ rho t + cn b t f) → Way T V f G rho (ctW b f)) ∧ SW w (ctW b f) V = SW w b V - SW w b f := by
  have h0 : ∀ u, u < f → ctW b f u = none := fun u hu => if_pos hu
  have hj : ∀ u, jnW b (ctW b f) f u = b u := fun u => by
    unfold jnW
    by_cases c : u < f
    · rw [if_pos c]
    · rw [if_neg c]; exact if_neg c
  obtain ⟨k, rfl⟩ : ∃ k, V = f + k := ⟨V - f, by omega⟩
  refine ⟨fun rho hr => ⟨fun u t hu hb => ?_, fun t ht => ?_⟩, ?_⟩
  · by_cases c : u < f
    · rw [h0 u c] at hb; exact nomatch hb
    · rw [show ctW b f u = b u from if_neg c] at hb
      exact ⟨by omega, (h.1 u t hu hb).2⟩
  · have e := jn_cn (b := b) (b2 := ctW b f) (t := t) h0 k
    rw [cn_cg (b2 := b) (fun u _ => hj u)] at e
    have := h.2 t ht
    have := hr t ht
    omega
  · have e := jn_SW (w := w) (b := b) (b2 := ctW b f) h0 k
    rw [SW_cg (b2 := b) (fun u _ => hj u)] at e
    omega
/-- the greatest sum -/
def Opt (T V f : Nat) (G : Nat → Nat → Bool) (rho : Nat → Nat) (w : Nat → Nat → Int) (r : Int) : Prop := (∃ b, Way T V f G rho b ∧ SW w b V = r) ∧ ∀ b, Way T V f G rho b → SW w b V ≤ r
def wR (l : Nat → Nat → Nat) : Nat → Nat → Int := fun t v => (l t v : Int)
def dgV (v : Nat) : Int := 10 ^ (9 - v)
def wC (l : Nat → Nat → Nat) : Nat → Nat → Int := fun t v => (l t v : Int) * 10000000000 - ((t : Int) + 1) * dgV v
def dg (o : Option Nat) : Int := match o with | none => 0 | some t => (t : Int) + 1
def Nm (b : Nat → Option Nat) (V : Nat) : Int := sumI (fun v => dg (b v) * dgV v) V
theorem wC_sum : ∀ V, SW (wC l) b V = 10000000000 * SW (wR l) b V - Nm b V := by
  intro V
  induction V with
  | zero => rfl
  | succ V ih =>
    show SW (wC l) b V + wo (wC l) (b V) V = 10000000000 * (SW (wR l) b V + wo (wR l) (b V) V) - (Nm b V + dg (b V) * dgV V)
    rw [ih]
    cases hb : b V with
    | none =>
      show 10000000000 * SW (wR l) b V - Nm b V + 0 = 10000000000 * (SW (wR l) b V + 0) - (Nm b V + 0 * dgV V)
      rw [Int.zero_mul]; omega
    | some t =>
      show 10000000000 * SW (wR l) b V - Nm b V + ((l t V : Int) * 10000000000 - ((t : Int) + 1) * dgV V) = 10000000000 * (SW (wR l) b V + (l t V : Int)) - (Nm b V + ((t : Int) + 1) * dgV V)
      omega
theorem dgV_pos (v : Nat) : 1 ≤ dgV v := by
  unfold dgV
  have : 0 < (10 : Int) ^ (9 - v) := Int.pow_pos (by decide)
  omega
theorem dgV_10 (h : v < 9) : dgV v = 10 * dgV (v + 1) := by
  unfold dgV
  rw [show 9 - v = (9 - (v + 1)) + 1 by omega, Int.pow_succ]; omega
def hiV (n : Nat) : Int := if n < 10 then 10 * dgV n else 1
theorem hiV_s (h : n < 10) : hiV (n + 1) = dgV n := by
  unfold hiV
  by_cases c : n + 1 < 10
  · have := dgV_10 (v := n) (by omega)
    rw [if_pos c]; omega
  · rw [if_neg c, show n = 9 by omega]; rfl
theorem hiV_e (h : n < 10) : hiV n = 10 * dgV n := if_pos h
theorem hiV_pos : 1 ≤ hiV n := by
  unfold hiV
  by_cases c : n < 10
  · rw [if_pos c]; have := dgV_pos n; omega
  · rw [if_neg c]; omega
theorem dg_bd (hb : ∀ t, o = some t → t < 9) : 0 ≤ dg o ∧ dg o ≤ 9 := by
  cases o with
  | none => exact ⟨Int.le_refl _, by show (0 : Int) ≤ 9; decide⟩
  | some t =>
    have := hb t rfl
    show 0 ≤ (t : Int) + 1 ∧ (t : Int) + 1 ≤ 9
    omega
theorem dg_mul (hb : ∀ t, o = some t → t < 9) : 0 ≤ dg o * dgV v ∧ dg o * dgV v ≤ 9 * dgV v := by
  obtain ⟨h1, h2⟩ := dg_bd hb
  have := dgV_pos v
  exact ⟨Int.mul_nonneg h1 (by omega), Int.mul_le_mul_of_nonneg_right h2 (by omega)⟩
theorem Nm_bd (hb : ∀ v t, v < n + k → b v = some t → t < 9) : ∀ j, j ≤ k → n + j ≤ 10 → Nm b n ≤ Nm b (n + j) ∧ Nm b (n + j) + hiV (n + j) ≤ Nm b n + hiV n := by
  intro j
  induction j with
  | zero => intro _ _; exact ⟨Int.le_refl _, Int.le_refl _⟩
  | succ j ih =>
    intro h1 h2
    obtain ⟨i1, i2⟩ := ih (by omega) (by omega)
    have e : Nm b (n + (j + 1)) = Nm b (n + j) + dg (b (n + j)) * dgV (n + j) := rfl
    have e2 : hiV (n + (j + 1)) = dgV (n + j) := hiV_s (n := n + j) (by omega)
    have e3 := hiV_e (n := n + j) (by omega)
    obtain ⟨g1, g2⟩ := dg_mul (v := n + j) (o := b (n + j)) (fun t ht => hb (n + j) t (by omega) ht)
    rw [e, e2]
    omega
theorem way_9 (h : Way T V f G R b) (hT : T ≤ 9) : ∀ v t, v < V → b v = some t → t < 9 := fun v t hv hb => by
  have := (h.1 v t hv hb).2.1
  omega
theorem Nm_all (hV : V ≤ 10) (hb : ∀ v t, v < V → b v = some t → t < 9) : 0 ≤ Nm b V ∧ Nm b V < 10000000000 := by
  have := Nm_bd (n := 0) (k := V) (b := b) (fun v t hv h => hb v t (by omega) h) V (Nat.le_refl _) (by omega)
  rw [Nat.zero_add] at this
  have h0 : Nm b 0 = 0 := rfl
  have h1 : hiV 0 = 10000000000 := by decide
  have h2 := hiV_pos (n := V)
  omega
/-- the class's way: the dearest, and the first of these -/
def Bst (T V : Nat) (G : Nat → Nat → Bool) (R : Nat → Nat) (l : Nat → Nat → Nat) (b : Nat → Option Nat) : Prop := Way T V 0 G R b ∧ ∀ b2, Way T V 0 G R b2 → SW (wC l) b2 V ≤ SW (wC l) b V
theorem best_sum (hT : T ≤ 9) (hV : V ≤ 10) (h : Bst T V G R l b) : ∀ b2, Way T V 0 G R b2 → SW (wR l) b2 V ≤ SW (wR l) b V := fun b2 h2 => by
  have e := h.2 b2 h2
  rw [wC_sum, wC_sum] at e
  have n1 := Nm_all hV (way_9 h.1 hT)
  have n2 := Nm_all hV (way_9 h2 hT)
  omega
theorem best_first (hT : T ≤ 9) (hV : V ≤ 10) (h : Bst T V G R l b) (h2 : Way T V 0 G R b2) (hS : SW (wR l) b2 V = SW (wR l) b V) (hv : v < V) (hu : ∀ u, u < v → b2 u = b u) : ¬ dg (b2 v) < dg (b v) := fun hlt => by
  have e := h.2 b2 h2
  rw [wC_sum, wC_sum, hS] at e
  obtain ⟨k, rfl⟩ : ∃ k, V = v + 1 + k := ⟨V - (v + 1), by omega⟩
  have n1 := (Nm_bd (n := v + 1) (k := k) (b := b) (way_9 h.1 hT) k (Nat.le_refl _) (by omega)).1
  have n2 := (Nm_bd (n := v + 1) (k := k) (b := b2) (way_9 h2 hT) k (Nat.le_refl _) (by omega)).2
  have p : Nm b2 v = Nm b v := sumI_cg (fun u hu2 => by rw [hu u hu2])
  have e1 : Nm b (v + 1) = Nm b v + dg (b v) * dgV v := rfl
  have e2 : Nm b2 (v + 1) = Nm b2 v + dg (b2 v) * dgV v := rfl
  have e3 : hiV (v + 1) = dgV v := hiV_s (by omega)
  have e4 := hiV_pos (n := v + 1 + k)
  have e5 : dg (b2 v) * dgV v + dgV v ≤ dg (b v) * dgV v := by
    have := Int.mul_le_mul_of_nonneg_right (show dg (b2 v) + 1 ≤ dg (b v) by omega) (show 0 ≤ dgV v by have := dgV_pos v; omega)
    rw [Int.add_mul, Int.one_mul] at this
    exact this
  omega
/-- a way with another choice at v -/
theorem with_v (h : Way T V 0 G R b) (hv : v < V) (ho : ∀ t, o = some t → t < T ∧ G t v = true) (h2 : Way T V (v + 1) G rho b2) (hc : ∀ t, t < T → cn b t v + (if o = some t then 1 else 0) + rho t ≤ R t) : ∃ b3, Way T V 0 G R b3 ∧ SW w b3 V = SW w b v + wo w o v + SW w b2 V ∧ (∀ u, u < v → b3 u = b u) ∧ b3 v = o := by
  have pre : ∀ u, u < v → upO b v o u = b u := fun u hu => upO_ne (by omega)
  have e1 : SW w (upO b v o) (v + 1) = SW w b v + wo w o v := by
    show SW w (upO b v o) v + wo w (upO b v o v) v = _
    rw [SW_cg pre, upO_eq]
  have e2 : ∀ t, cn (upO b v o) t (v + 1) = cn b t v + (if o = some t then 1 else 0) := fun t => by
    show cn (upO b v o) t v + (if upO b v o v = some t then 1 else 0) = _
    rw [cn_cg pre, upO_eq]
  obtain ⟨j1, j2⟩ := join_way (w := w) (b := upO b v o) (R := R) (fun u t hu hb => by
    by_cases c : u = v
    · subst c; rw [upO_eq] at hb; exact ho t hb
    · rw [upO_ne c] at hb; exact (h.1 u t (by omega) hb).2) h2 (fun t ht => by rw [e2]; exact hc t ht) (by omega)
  refine ⟨_, j1, by rw [j2, e1], fun u hu => ?_, ?_⟩
  · show (if u < v + 1 then upO b v o u else b2 u) = b u
    rw [if_pos (by omega), pre u hu]
  · show (if v < v + 1 then upO b v o v else b2 v) = o
    rw [if_pos (by omega), upO_eq]
theorem cn_le : ∀ k, cn b t n ≤ cn b t (n + k) := by
  intro k
  induction k with
  | zero => exact Nat.le_refl _
  | succ k ih =>
    have : cn b t (n + (k + 1)) = cn b t (n + k) + (if b (n + k) = some t then 1 else 0) := rfl
    omega
/-- none at v, if the others are as dear without -/
theorem at_none (hT : T ≤ 9) (hV : V ≤ 10) (h : Bst T V G R l b) (hv : v < V) (hr : ∀ t, t < T → rho t + cn b t v = R t) (hO : Opt T V (v + 1) G rho (wR l) r) : (r = SW (wR l) b V - SW (wR l) b v) ↔ b v = none := by
  obtain ⟨⟨bs, o1, o2⟩, o3⟩ := hO
  obtain ⟨b3, q1, q2, q3, q4⟩ := with_v (w := wR l) (o := none) h.1 hv (fun t ht => nomatch ht) o1 (fun t ht => by rw [if_neg (fun h => nomatch h)]; have := hr t ht; omega)
  have q2 : SW (wR l) b3 V = SW (wR l) b v + 0 + SW (wR l) bs V := q2
  have top := best_sum hT hV h b3 q1
  refine ⟨fun e => ?_, fun e => ?_⟩
  · cases hb : b v with
    | none => rfl
    | some t =>
      refine absurd ?_ (best_first hT hV h q1 (by omega) hv q3)
      rw [q4, hb]
      show (0 : Int) < (t : Int) + 1
      omega
  · obtain ⟨c1, c2⟩ := cut_way (w := wR l) (f := v + 1) h.1 (by omega)
    have e1 : SW (wR l) b (v + 1) = SW (wR l) b v + wo (wR l) (b v) v := rfl
    have e2 : wo (wR l) (b v) v = 0 := by rw [e]; rfl
    have := o3 _ (c1 rho (fun t ht => by
      have e3 : cn b t (v + 1) = cn b t v + (if b v = some t then 1 else 0) := rfl
      have := hr t ht
      omega))
    omega
/-- which at v -/
theorem at_some (hT : T ≤ 9) (hV : V ≤ 10) (h : Bst T V G R l b) (hv : v < V) (hr : ∀ t, t < T → rho t + cn b t v = R t) (hb : b v = some x) (ht : t < T) (hG : G t v = true) (hr0 : rho t ≠ 0) (hr2 : ∀ s, s < T → rho2 s + (if s = t then 1 else 0) = rho s) (hO : Opt T V (v + 1) G rho2 (wR l) r) : (t < x → r + l t v ≠ SW (wR l) b V - SW (wR l) b v) ∧ (t = x → r + l t v = SW (wR l) b V - SW (wR l) b v) := by
  obtain ⟨⟨bs, o1, o2⟩, o3⟩ := hO
  have hif : ∀ s, (if (some t : Option Nat) = some s then 1 else 0) = if s = t then 1 else 0 := fun s => by
    by_cases c : s = t
    · subst c; rw [if_pos rfl, if_pos rfl]
    · rw [if_neg c, if_neg (fun h => c (Option.some.inj h).symm)]
  obtain ⟨b3, q1, q2, q3, q4⟩ := with_v (w := wR l) (o := some t) h.1 hv (fun s hs => by cases hs; exact ⟨ht, hG⟩) o1 (fun s hs => by rw [hif]; have := hr s hs; have := hr2 s hs; omega)
  have q2 : SW (wR l) b3 V = SW (wR l) b v + (l t v : Int) + SW (wR l) bs V := q2
  have top := best_sum hT hV h b3 q1
  refine ⟨fun hlt e => ?_, fun e => ?_⟩
  · refine absurd ?_ (best_first hT hV h q1 (by omega) hv q3)
    rw [q4, hb]
    show (t : Int) + 1 < (x : Int) + 1
    omega
  · subst e
    obtain ⟨c1, c2⟩ := cut_way (w := wR l) (f := v + 1) h.1 (by omega)
    have e1 : SW (wR l) b (v + 1) = SW (wR l) b v + wo (wR l) (b v) v := rfl
    have e2 : wo (wR l) (b v) v = (l t v : Int) := by rw [hb]; rfl
    have := o3 _ (c1 rho2 (fun s hs => by
      have e3 : cn b s (v + 1) = cn b s v + (if b v = some s then 1 else 0) := rfl
      rw [hb, hif] at e3
      have := hr s hs
      have := hr2 s hs
      omega))
    omega
/-- there is room at v for what is there -/
theorem room_v (h : Way T V 0 G R b) (hv : v < V) (hr : ∀ t, t < T → rho t + cn b t v = R t) (hb : b v = some x) : x < T ∧ G x v = true ∧ rho x ≠ 0 := by
  obtain ⟨a1, a2, a3⟩ := h.1 v x hv hb
  have e3 : cn b x (v + 1) = cn b x v + (if b v = some x then 1 else 0) := rfl
  rw [if_pos hb] at e3
  obtain ⟨k, rfl⟩ : ∃ k, V = v + 1 + k := ⟨V - (v + 1), by omega⟩
  have := cn_le (b := b) (t := x) (n := v + 1) k
  have := h.2 x a2
  have := hr x a2
  exact ⟨a2, a3, by omega⟩
end LEX
