/-! led: counts in the log -/
section LED
variable {LR : Mm → Nat → (Nat → Int32) → Prop} {LK : (Nat → Int32) → Nat → Nat → Int32 → Int32} {n : Nat} {M N Mc Mr Nc Nr : Mm} {q B : Nat} {m : Nat → Int32} {x x1 x2 x3 x4 x5 w : Int32}
def sumN (g : Nat → Nat) (n : Nat) : Nat := iter (fun v s => s + g v) n 0
theorem sumN_succ {g : Nat → Nat} {n : Nat} : sumN g (n + 1) = sumN g n + g n := rfl
theorem sumN_cg {g h : Nat → Nat} {n : Nat} (e : ∀ v, v < n → g v = h v) : sumN g n = sumN h n := iter_cg (fun i s hi => by rw [e i hi])
theorem sumN_add {g h : Nat → Nat} : ∀ {n : Nat}, sumN (fun v => g v + h v) n = sumN g n + sumN h n := by
  intro n
  induction n with
  | zero => rfl
  | succ n ih => rw [sumN_succ, sumN_succ, sumN_succ, ih]; omega
theorem sumN_0 : ∀ {n : Nat}, sumN (fun _ => 0) n = 0 := by
  intro n
  induction n with
  | zero => rfl
  | succ n ih => rw [sumN_succ, ih]
theorem sumN_1 {w : Nat} : ∀ {n : Nat}, sumN (fun v => if v = w then 1 else 0) n = if w < n then 1 else 0 := by
  intro n
  induction n with
  | zero => rfl
  | succ n ih =>
    rw [sumN_succ, ih]
    by_cases h : n = w
    · subst h; simp
    · by_cases h2 : w < n
      · simp [h, h2, show w < n + 1 by omega]
      · simp [h, h2, show ¬ w < n + 1 by omega]
def cnL (m : Nat → Int32) (t v R : Nat) : Nat := cntB (fun a => decide (m (107 + 5 * a + 1) = nI v) && decide (m (107 + 5 * a + 2) = nI t)) R
def cnT (m : Nat → Int32) (t R : Nat) : Nat := cntB (fun a => decide (m (107 + 5 * a + 2) = nI t)) R
theorem cn_sum {t : Nat} : ∀ {R : Nat}, (∀ a, a < R → ∃ w, w < 10 ∧ m (107 + 5 * a + 1) = nI w) → sumN (fun v => cnL m t v R) 10 = cnT m t R := by
  intro R
  induction R with
  | zero => intro _; exact sumN_0
  | succ R ih =>
    intro h
    have ih := ih (fun a ha => h a (by omega))
    obtain ⟨w, w1, w2⟩ := h R (by omega)
    have e : ∀ v, v < 10 → cnL m t v (R + 1) = cnL m t v R + (if m (107 + 5 * R + 2) = nI t then (if v = w then 1 else 0) else 0) := fun v hv => by
      unfold cnL
      rw [cntB_succ, w2]
      by_cases c1 : m (107 + 5 * R + 2) = nI t
      · by_cases c2 : v = w
        · subst c2; simp [c1]
        · have : ¬ nI w = nI v := by rw [nI_eq (by omega) (by omega)]; exact fun e => c2 e.symm
          simp [c1, c2, this]
      · simp [c1]
    rw [sumN_cg e, sumN_add, ih]
    unfold cnT
    rw [cntB_succ]
    by_cases c1 : m (107 + 5 * R + 2) = nI t
    · simp only [c1, if_true, decide_true]
      rw [sumN_1, if_pos w1]
    · simp only [c1, if_false, decide_false]
      rw [sumN_0]; simp
theorem timesC (hk : kd q = 4) (h : MR M q m) (hI : Inv m B) (hB : B < 2 ^ 31) {t v : Nat} : f_X4_timesLed M q (nI v) (nI t) = some (nI (cnL m t v (min (hN m) 60))) := by
  have hr := rowsC h hI hB
  have hm60 : min (hN m) 60 ≤ 60 := Nat.min_le_right _ _
  unfold f_X4_timesLed
  have : loop FU (fun a_1 => f_X4_timesLed_L5 M q (nI v) (nI t) a_1.1 a_1.2) (0, 0) = some (nI (cnL m t v (min (hN m) 60))) := by
    refine lpI (fun a (s : Nat) => (nI s, nI a)) (min (hN m) 60) (fun a s => if (decide (m (107 + 5 * a + 1) = nI v) && decide (m (107 + 5 * a + 2) = nI t)) = true then s + 1 else s) nI (by omega) 0 rfl (fun a s ha => ?_) (fun s => ?_)
    · show f_X4_timesLed_L5 M q (nI v) (nI t) (nI s) (nI a) = _
      unfold f_X4_timesLed_L5
      rw [hr, if_neg (by rw [nI_leI (by omega) (by omega)]; omega), show f_X4_logged M q (nI a) 1 = m (107 + 5 * a + 1) from loggedC hk h hI hB (c := 1) ha (by decide), show f_X4_logged M q (nI a) 2 = m (107 + 5 * a + 2) from loggedC hk h hI hB (c := 2) ha (by decide), show nI a + 1 = nI (a + 1) from by rw [l_1, nI_add], show nI s + 1 = nI (s + 1) from by rw [l_1, nI_add]]
      by_cases c1 : m (107 + 5 * a + 1) = nI v
      · by_cases c2 : m (107 + 5 * a + 2) = nI t <;> simp [c1, c2]
      · simp [c1]
    · show f_X4_timesLed_L5 M q (nI v) (nI t) (nI s) (nI (min (hN m) 60)) = _
      unfold f_X4_timesLed_L5
      rw [hr, if_pos (by rw [nI_leI (by omega) (by omega)]; omega)]
  rw [this]; rfl
end LED
