/-! pure functions that come to an end: a triple, and its rules -/
def Tr {α : Type} (o : Option α) (Q : α → Prop) : Prop := ∃ r, o = some r ∧ Q r
theorem Tr.some {α : Type} {a : α} {Q : α → Prop} (h : Q a) : Tr (some a) Q := ⟨a, rfl, h⟩
theorem Tr.bind {α β : Type} {o : Option α} {f : α → Option β} {Q : α → Prop} {P : β → Prop} (h : Tr o Q) (k : ∀ r, Q r → Tr (f r) P) : Tr (o.bind f) P := by
  obtain ⟨r, rfl, hq⟩ := h
  exact k r hq
theorem Tr.bs {α β : Type} {a : α} {f : α → Option β} {P : β → Prop} (k : Tr (f a) P) : Tr ((Option.some a).bind f) P := k
theorem Tr.ite {α : Type} {c : Prop} [Decidable c] {A B : Option α} {Q : α → Prop} (h1 : c → Tr A Q) (h2 : ¬ c → Tr B Q) : Tr (if c then A else B) Q := by
  by_cases h : c
  · rw [if_pos h]; exact h1 h
  · rw [if_neg h]; exact h2 h
theorem Tr.grd {α : Type} {c : Prop} [Decidable c] {A : Option α} {Q : α → Prop} (h : c) (k : Tr A Q) : Tr (if c then A else none) Q := by rw [if_pos h]; exact k
theorem Tr.weak {α : Type} {o : Option α} {Q P : α → Prop} (h : Tr o Q) (k : ∀ r, Q r → P r) : Tr o P := by
  obtain ⟨r, h1, h2⟩ := h
  exact ⟨r, h1, k r h2⟩
theorem Tr.eq {α : Type} {o : Option α} {a : α} (h : Tr o (fun r => r = a)) : o = Option.some a := by
  obtain ⟨r, h1, rfl⟩ := h
  exact h1
theorem Tr.of {α : Type} {o : Option α} {a : α} {Q : α → Prop} (h : o = Option.some a) (k : Q a) : Tr o Q := ⟨a, h, k⟩
/-- a loop: an invariant, a measure that falls -/
theorem Tr.lp {σ ρ : Type} {f : σ → Option (σ ⊕ ρ)} (P : σ → Prop) (μ : σ → Nat) {Q : ρ → Prop} (h : ∀ a, P a → Tr (f a) (fun x => Sum.elim (fun b => P b ∧ μ b < μ a) Q x)) : ∀ k a, P a → μ a < k → Tr (loop k f a) Q := by
  intro k
  induction k with
  | zero => intro a _ hk; exact absurd hk (Nat.not_lt_zero _)
  | succ k ih =>
    intro a ha hk
    obtain ⟨x, h1, h2⟩ := h a ha
    rcases x with b | r
    · obtain ⟨r, h3, h4⟩ := ih b h2.1 (by have := h2.2; omega)
      exact ⟨r, by rw [loop, h1]; exact h3, h4⟩
    · exact ⟨r, by rw [loop, h1]; rfl, h2⟩
