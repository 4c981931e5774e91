/-! led -/
section LED2
variable {LR : Mm → Nat → (Nat → Int32) → Prop} {LK : (Nat → Int32) → Nat → Nat → Int32 → Int32} {n : Nat} {M N Mc Mr Nc Nr : Mm} {q B : Nat} {m : Nat → Int32} {x x1 x2 x3 x4 x5 w : Int32}
theorem rowsTR (hm : M.1 110 = m) (hI : Inv m B) {t : Nat} : f_X10_rowsOf M (nI t) (-1) = some (nI (cnT m t (min (hN m) 60))) := by
  have hm60 : min (hN m) 60 ≤ 60 := Nat.min_le_right _ _
  have ib : ibs (8 : Int32) 807 = true := by decide
  have g8 : gA M 110 8 = nI (min (hN m) 60) := by show M.1 110 8 = _; rw [hm]; exact hI.2.2.2.2.2.1
  unfold f_X10_rowsOf
  have : loop FU (fun a_3 => f_X10_rowsOf_L5 M (nI t) (-1) a_3.1 a_3.2) (0, 0) = some (nI (cnT m t (min (hN m) 60))) := by
    refine lpI (fun a (s : Nat) => (nI s, nI a)) (min (hN m) 60) (fun a s => if decide (m (107 + 5 * a + 2) = nI t) = true then s + 1 else s) nI (by omega) 0 rfl (fun a s ha => ?_) (fun s => ?_)
    · show f_X10_rowsOf_L5 M (nI t) (-1) (nI s) (nI a) = _
      unfold f_X10_rowsOf_L5 f_X10_rowsOf_J5_45 f_X10_rowsOf_J5_49
      rw [if_pos ib, g8, if_neg (by rw [nI_leI (by omega) (by omega)]; omega), show f_X10_logged M (nI a) 2 = some (m (107 + 5 * a + 2)) from loggedR hm (c := 2) (by omega) (by decide), Option.bind_some, show nI a + 1 = nI (a + 1) from by rw [l_1, nI_add], show nI s + 1 = nI (s + 1) from by rw [l_1, nI_add]]
      by_cases c2 : m (107 + 5 * a + 2) = nI t <;> simp [c2]
    · show f_X10_rowsOf_L5 M (nI t) (-1) (nI s) (nI (min (hN m) 60)) = _
      unfold f_X10_rowsOf_L5
      rw [if_pos ib, g8, if_pos (by rw [nI_leI (by omega) (by omega)]; omega)]
  rw [this]; rfl
theorem rowsLR (hm : M.1 110 = m) (hI : Inv m B) {t v : Nat} (hv : v < 10) : f_X10_rowsOf M (nI t) (nI v) = some (nI (cnL m t v (min (hN m) 60))) := by
  have hm60 : min (hN m) 60 ≤ 60 := Nat.min_le_right _ _
  have ib : ibs (8 : Int32) 807 = true := by decide
  have g8 : gA M 110 8 = nI (min (hN m) 60) := by show M.1 110 8 = _; rw [hm]; exact hI.2.2.2.2.2.1
  have nv : ¬ nI v = -1 := by rw [nI_ne_m1 (by omega)]; exact not_false
  unfold f_X10_rowsOf
  have : loop FU (fun a_3 => f_X10_rowsOf_L5 M (nI t) (nI v) a_3.1 a_3.2) (0, 0) = some (nI (cnL m t v (min (hN m) 60))) := by
    refine lpI (fun a (s : Nat) => (nI s, nI a)) (min (hN m) 60) (fun a s => if (decide (m (107 + 5 * a + 1) = nI v) && decide (m (107 + 5 * a + 2) = nI t)) = true then s + 1 else s) nI (by omega) 0 rfl (fun a s ha => ?_) (fun s => ?_)
    · show f_X10_rowsOf_L5 M (nI t) (nI v) (nI s) (nI a) = _
      unfold f_X10_rowsOf_L5 f_X10_rowsOf_J5_45 f_X10_rowsOf_J5_49
      rw [if_pos ib, g8, if_neg (by rw [nI_leI (by omega) (by omega)]; omega), show f_X10_logged M (nI a) 2 = some (m (107 + 5 * a + 2)) from loggedR hm (c := 2) (by omega) (by decide), Option.bind_some, if_neg nv, show f_X10_logged M (nI a) 1 = some (m (107 + 5 * a + 1)) from loggedR hm (c := 1) (by omega) (by decide), Option.bind_some, show nI a + 1 = nI (a + 1) from by rw [l_1, nI_add], show nI s + 1 = nI (s + 1) from by rw [l_1, nI_add]]
      by_cases c1 : m (107 + 5 * a + 1) = nI v
      · by_cases c2 : m (107 + 5 * a + 2) = nI t <;> simp [c1, c2]
      · by_cases c2 : m (107 + 5 * a + 2) = nI t <;> simp [c1, c2]
    · show f_X10_rowsOf_L5 M (nI t) (nI v) (nI s) (nI (min (hN m) 60)) = _
      unfold f_X10_rowsOf_L5
      rw [if_pos ib, g8, if_pos (by rw [nI_leI (by omega) (by omega)]; omega)]
  rw [this]; rfl
/-- who is most often in it, the first of them, and how often -/
def bst (g : Nat → Nat) (n : Nat) : Option Nat × Nat := iter (fun v s => if g v ≤ s.2 then s else (some v, g v)) n (none, 0)
theorem bst_succ {g : Nat → Nat} {n : Nat} : bst g (n + 1) = if g n ≤ (bst g n).2 then bst g n else (some n, g n) := rfl
theorem bst_ok {g : Nat → Nat} : ∀ {n : Nat}, (∀ u, (bst g n).1 = some u → u < n) ∧ (bst g n).2 = (match (bst g n).1 with | none => 0 | some u => g u) := by
  intro n
  induction n with
  | zero => exact ⟨fun u h => (by cases h), rfl⟩
  | succ n ih =>
    rw [bst_succ]
    by_cases h : g n ≤ (bst g n).2
    · rw [if_pos h]; exact ⟨fun u hu => by have := ih.1 u hu; omega, ih.2⟩
    · rw [if_neg h]; exact ⟨fun u hu => by cases hu; omega, rfl⟩
theorem bst_more {g : Nat → Nat} {n : Nat} (h : ∀ v, n ≤ v → g v = 0) : ∀ {k : Nat}, n ≤ k → bst g k = bst g n := by
  intro k
  induction k with
  | zero => intro hk; rw [show n = 0 by omega]
  | succ k ih =>
    intro hk
    by_cases e : n = k + 1
    · rw [e]
    · rw [bst_succ, if_pos (by rw [h k (by omega)]; omega)]
      exact ih (by omega)
end LED2
