/-! dearest: sums, ways, what no way can be above -/
section WAY
variable {T V f n k i v t x : Nat} {G : Nat → Nat → Bool} {R : Nat → Nat} {w : Nat → Nat → Int} {b b2 bc : Nat → Option Nat} {U p g h : Nat → Int} {o : Option Nat}
def sumI (g : Nat → Int) : Nat → Int
  | 0 => 0
  | n + 1 => sumI g n + g n
theorem sumI_cg : ∀ {n : Nat}, (∀ v, v < n → g v = h v) → sumI g n = sumI h n := by
  intro n
  induction n with
  | zero => intro _; rfl
  | succ n ih =>
    intro e
    show sumI g n + g n = sumI h n + h n
    rw [ih (fun v hv => e v (by omega)), e n (by omega)]
theorem sumI_le : ∀ {n : Nat}, (∀ v, v < n → g v ≤ h v) → sumI g n ≤ sumI h n := by
  intro n
  induction n with
  | zero => intro _; exact Int.le_refl _
  | succ n ih =>
    intro e
    show sumI g n + g n ≤ sumI h n + h n
    have h1 := ih (fun v hv => e v (by omega))
    have h2 := e n (by omega)
    omega
theorem sumI_add : ∀ {n : Nat}, sumI (fun v => g v + h v) n = sumI g n + sumI h n := by
  intro n
  induction n with
  | zero => rfl
  | succ n ih =>
    show sumI (fun v => g v + h v) n + (g n + h n) = sumI g n + g n + (sumI h n + h n)
    rw [ih]; omega
theorem sumI_0 : ∀ {n : Nat}, sumI (fun _ => 0) n = 0 := by
  intro n
  induction n with
  | zero => rfl
  | succ n ih => show sumI (fun _ => 0) n + 0 = 0; rw [ih]; rfl
theorem sumI_one {a : Int} {j : Nat} : ∀ {n : Nat}, sumI (fun v => if v = j then a else 0) n = if j < n then a else 0 := by
  intro n
  induction n with
  | zero => rfl
  | succ n ih =>
    show sumI (fun v => if v = j then a else 0) n + (if n = j then a else 0) = _
    rw [ih]
    by_cases c : n = j
    · subst c
      rw [if_neg (Nat.lt_irrefl _), if_pos rfl, if_pos (Nat.lt_succ_self _)]; omega
    · rw [if_neg c]
      by_cases d : j < n
      · rw [if_pos d, if_pos (by omega)]; omega
      · rw [if_neg d, if_neg (by omega)]; rfl
def wo (w : Nat → Nat → Int) (o : Option Nat) (v : Nat) : Int := match o with | none => 0 | some t => w t v
def SW (w : Nat → Nat → Int) (b : Nat → Option Nat) (V : Nat) : Int := sumI (fun v => wo w (b v) v) V
def cn (b : Nat → Option Nat) (t : Nat) : Nat → Nat
  | 0 => 0
  | n + 1 => cn b t n + (if b n = some t then 1 else 0)
def upO (b : Nat → Option Nat) (v : Nat) (o : Option Nat) : Nat → Option Nat := fun u => if u = v then o else b u
theorem upO_eq : upO b v o v = o := if_pos rfl
theorem upO_ne {u : Nat} (h : u ≠ v) : upO b v o u = b u := if_neg h
theorem SW_cg (h : ∀ v, v < V → b v = b2 v) : SW w b V = SW w b2 V := sumI_cg (fun v hv => by rw [h v hv])
theorem cn_cg : ∀ {V : Nat}, (∀ v, v < V → b v = b2 v) → cn b t V = cn b2 t V := by
  intro V
  induction V with
  | zero => intro _; rfl
  | succ V ih =>
    intro h
    show cn b t V + (if b V = some t then 1 else 0) = cn b2 t V + (if b2 V = some t then 1 else 0)
    rw [ih (fun v hv => h v (by omega)), h V (by omega)]
theorem SW_up : ∀ {V : Nat}, v < V → SW w (upO b v o) V = SW w b V - wo w (b v) v + wo w o v := by
  intro V
  induction V with
  | zero => intro h; exact absurd h (Nat.not_lt_zero _)
  | succ V ih =>
    intro h
    have e1 : SW w (upO b v o) (V + 1) = SW w (upO b v o) V + wo w (upO b v o V) V := rfl
    have e2 : SW w b (V + 1) = SW w b V + wo w (b V) V := rfl
    by_cases c : V = v
    · subst c
      rw [e1, e2, upO_eq, SW_cg (fun u hu => upO_ne (o := o) (b := b) (v := V) (u := u) (by omega))]; omega
    · rw [e1, e2, upO_ne c, ih (by omega)]; omega
theorem cn_up : ∀ {V : Nat}, v < V → cn (upO b v o) t V + (if b v = some t then 1 else 0) = cn b t V + (if o = some t then 1 else 0) := by
  intro V
  induction V with
  | zero => intro h; exact absurd h (Nat.not_lt_zero _)
  | succ V ih =>
    intro h
    have e1 : cn (upO b v o) t (V + 1) = cn (upO b v o) t V + (if upO b v o V = some t then 1 else 0) := rfl
    have e2 : cn b t (V + 1) = cn b t V + (if b V = some t then 1 else 0) := rfl
    by_cases c : V = v
    · subst c
      rw [e1, e2, upO_eq, cn_cg (fun u hu => upO_ne (o := o) (b := b) (v := V) (u := u) (by omega))]; omega
    · rw [e1, e2, upO_ne c]
      have := ih (by omega)
      omega
def Way (T V f : Nat) (G : Nat → Nat → Bool) (R : Nat → Nat) (b : Nat → Option Nat) : Prop := (∀ v t, v < V → b v = some t → f ≤ v ∧ t < T ∧ G t v = true) ∧ ∀ t, t < T → cn b t V ≤ R t
def po (p : Nat → Int) (o : Option Nat) : Int := match o with | none => 0 | some t => p t
theorem sum_dc : ∀ {V : Nat}, (∀ v t, v < V → b v = some t → t < T) → sumI (fun v => po p (b v)) V = sumI (fun t => (cn b t V : Int) * p t) T := by
  intro V
  induction V with
  | zero =>
    intro _
    show (0 : Int) = sumI (fun t => ((0 : Nat) : Int) * p t) T
    rw [sumI_cg (h := fun _ => 0) (fun t _ => by rw [Int.natCast_zero, Int.zero_mul]), sumI_0]
  | succ V ih =>
    intro hb
    have ih := ih (fun v t hv h => hb v t (by omega) h)
    show sumI (fun v => po p (b v)) V + po p (b V) = _
    rw [ih]
    have e : ∀ t, t < T → (cn b t (V + 1) : Int) * p t = (cn b t V : Int) * p t + (if b V = some t then p t else 0) := fun t _ => by
      have e2 : cn b t (V + 1) = cn b t V + (if b V = some t then 1 else 0) := rfl
      rw [e2]
      by_cases c : b V = some t
      · rw [if_pos c, if_pos c, Int.natCast_add, Int.add_mul]; congr 1; exact Int.one_mul _
      · rw [if_neg c, if_neg c, Nat.add_zero, Int.add_zero]
    rw [sumI_cg e, sumI_add]
    congr 1
    cases hV : b V with
    | none =>
      rw [sumI_cg (h := fun _ => 0) (fun t _ => by rw [if_neg (fun h => nomatch h)]), sumI_0]; rfl
    | some s =>
      have hs := hb V s (by omega) hV
      rw [sumI_cg (h := fun t => if t = s then p s else 0) (fun t _ => by
        by_cases c : t = s
        · subst c; rw [if_pos rfl, if_pos rfl]
        · rw [if_neg (fun h => c (Option.some.inj h).symm), if_neg c]), sumI_one, if_pos hs]; rfl
/-- no way is above the prices -/
theorem dual (hp : ∀ t, t < T → 0 ≤ p t) (hU : ∀ v, f ≤ v → v < V → 0 ≤ U v) (hf : ∀ v t, f ≤ v → v < V → t < T → G t v = true → w t v ≤ U v + p t) (h : Way T V f G R b) : SW w b V ≤ sumI (fun v => if f ≤ v then U v else 0) V + sumI (fun t => (R t : Int) * p t) T := by
  have h1 : SW w b V ≤ sumI (fun v => (if f ≤ v then U v else 0) + po p (b v)) V := sumI_le (fun v hv => by
    cases hb : b v with
    | none =>
      show (0 : Int) ≤ (if f ≤ v then U v else 0) + 0
      by_cases c : f ≤ v
      · rw [if_pos c]; have := hU v c hv; omega
      · rw [if_neg c]; omega
    | some t =>
      obtain ⟨a1, a2, a3⟩ := h.1 v t hv hb
      show w t v ≤ (if f ≤ v then U v else 0) + p t
      rw [if_pos a1]
      exact hf v t a1 hv a2 a3)
  rw [sumI_add, sum_dc (fun v t hv hb => (h.1 v t hv hb).2.1)] at h1
  have h2 : sumI (fun t => (cn b t V : Int) * p t) T ≤ sumI (fun t => (R t : Int) * p t) T := sumI_le (fun t ht => by
    have := h.2 t ht
    exact Int.mul_le_mul_of_nonneg_right (by omega) (hp t ht))
  omega
/-- a way that is at the prices -/
theorem dual_eq (hm : ∀ v t, v < V → b v = some t → w t v = U v + p t) (hn : ∀ v, f ≤ v → v < V → b v = none → U v = 0) (hr : ∀ t, t < T → cn b t V < R t → p t = 0) (h : Way T V f G R b) : SW w b V = sumI (fun v => if f ≤ v then U v else 0) V + sumI (fun t => (R t : Int) * p t) T := by
  have h1 : SW w b V = sumI (fun v => (if f ≤ v then U v else 0) + po p (b v)) V := sumI_cg (fun v hv => by
    cases hb : b v with
    | none =>
      show (0 : Int) = (if f ≤ v then U v else 0) + 0
      by_cases c : f ≤ v
      · rw [if_pos c, hn v c hv hb]; rfl
      · rw [if_neg c]; rfl
    | some t =>
      obtain ⟨a1, a2, a3⟩ := h.1 v t hv hb
      show w t v = (if f ≤ v then U v else 0) + p t
      rw [if_pos a1]
      exact hm v t hv hb)
  rw [h1, sumI_add, sum_dc (fun v t hv hb => (h.1 v t hv hb).2.1)]
  congr 1
  refine sumI_cg (fun t ht => ?_)
  by_cases c : cn b t V < R t
  · rw [hr t ht c, Int.mul_zero, Int.mul_zero]
  · have := h.2 t ht
    rw [show cn b t V = R t by omega]
/-- how many can be told apart by less than m -/
theorem pigeon {P : Nat → Nat → Prop} : ∀ {m n : Nat} {P : Nat → Nat → Prop}, (∀ j, j < n → ∃ v, v < m ∧ P j v) → (∀ i j v, i < n → j < n → P i v → P j v → i = j) → n ≤ m := by
  intro m
  induction m with
  | zero =>
    intro n P h1 h2
    cases n with
    | zero => exact Nat.le_refl _
    | succ n =>
      obtain ⟨v, hv, -⟩ := h1 0 (by omega)
      exact absurd hv (Nat.not_lt_zero _)
  | succ m ih =>
    intro n P h1 h2
    by_cases c : ∃ j, j < n ∧ P j m
    · obtain ⟨j0, hj0, hP⟩ := c
      have : n - 1 ≤ m := by
        refine ih (n := n - 1) (P := fun j v => P (if j < j0 then j else j + 1) v) (fun j hj => ?_) (fun i j v hi hj p1 p2 => ?_)
        · have hlt : (if j < j0 then j else j + 1) < n := by
            by_cases d : j < j0
            · rw [if_pos d]; omega
            · rw [if_neg d]; omega
          obtain ⟨v, hv, hPv⟩ := h1 _ hlt
          refine ⟨v, ?_, hPv⟩
          by_cases e : v = m
          · subst e
            have := h2 _ _ _ hlt hj0 hPv hP
            exfalso
            by_cases d : j < j0
            · rw [if_pos d] at this; omega
            · rw [if_neg d] at this; omega
          · omega
        · have l1 : (if i < j0 then i else i + 1) < n := by
            by_cases d : i < j0
            · rw [if_pos d]; omega
            · rw [if_neg d]; omega
          have l2 : (if j < j0 then j else j + 1) < n := by
            by_cases d : j < j0
            · rw [if_pos d]; omega
            · rw [if_neg d]; omega
          have := h2 _ _ _ l1 l2 p1 p2
          by_cases d : i < j0
          · rw [if_pos d] at this
            by_cases d2 : j < j0
            · rw [if_pos d2] at this; exact this
            · rw [if_neg d2] at this; omega
          · rw [if_neg d] at this
            by_cases d2 : j < j0
            · rw [if_pos d2] at this; omega
            · rw [if_neg d2] at this; omega
      omega
    · have : n ≤ m := ih (n := n) (P := P) (fun j hj => by
        obtain ⟨v, hv, hPv⟩ := h1 j hj
        refine ⟨v, ?_, hPv⟩
        by_cases e : v = m
        · subst e; exact absurd ⟨j, hj, hPv⟩ c
        · omega) h2
      omega
end WAY
