/-! what changes the museum: copies, remember, undo -/
section MUT
variable {LR : Mm → Nat → (Nat → Int32) → Prop} {LK : (Nat → Int32) → Nat → Nat → Int32 → Int32} {n : Nat} {M N Mc Mr Nc Nr : Mm} {q L B a d c : Nat} {m : Nat → Int32} {x x1 x2 x3 x4 x5 : Int32}
theorem cpA_at {i k : Nat} (h : i = d → k < c) : (cpA M a d c).1 i k = if i = d then M.1 a k else M.1 i k := by
  show (if i = d then va_cpy (M.1 a) (M.1 d) 0 0 c k else M.1 i k) = _
  by_cases e : i = d
  · rw [if_pos e, if_pos e]
    have := h e
    simp [va_cpy, this]
  · rw [if_neg e, if_neg e]
theorem cpA_ne {i : Nat} (h : i ≠ d) : (cpA M a d c).1 i = M.1 i := by
  funext k
  rw [cpA_at (fun e => absurd e h), if_neg h]
theorem copyC {q1 q2 : Nat} (h1 : kd q1 = 4) (h2 : kd q2 = 4) (hne : q1 ≠ q2) (h : MR M q2 m) : Tr (f_X4_copyFrom M q1 q2) (fun N => MR N q1 m ∧ Fr [q1, q1 + 1, q1 + 2, q1 + 3] M N) := by
  have k1 := md4 h1
  have k2 := md4 h2
  unfold f_X4_copyFrom
  simp only [Option.bind_some]
  refine Tr.some ⟨?_, ?_⟩
  · obtain ⟨e1, e2, e3, e4, e5, e6, e7, e8, e9, e10⟩ := h
    have n0 : ¬ q2 = q1 := by omega
    have n1 : ¬ q2 = q1 + 1 := by omega
    have n2 : ¬ q2 = q1 + 2 := by omega
    have n3 : ¬ q2 = q1 + 3 := by omega
    have o0 : ¬ q2 + 1 = q1 := by omega
    have o1 : ¬ q2 + 1 = q1 + 1 := by omega
    have o2 : ¬ q2 + 1 = q1 + 2 := by omega
    have o3 : ¬ q2 + 1 = q1 + 3 := by omega
    simp only [gI]
    refine ⟨fun k hk => ?_, fun k hk => ?_, ?_, ?_, ?_, ?_, ?_, ?_, ?_, fun a c ha hc => ?_⟩
    · simp only [sI_at]
      rw [if_neg (by omega), if_neg (by omega), if_neg (by omega), if_neg (by omega), if_neg (by omega), if_neg (by omega), if_neg (by omega), cpA_at (by omega), if_neg (by omega), cpA_at (by omega), if_neg (by omega), cpA_at (by omega), if_pos rfl]
      exact e1 k hk
    · simp only [sI_at]
      rw [if_neg (by omega), if_neg (by omega), if_neg (by omega), if_neg (by omega), if_neg (by omega), if_neg (by omega), if_neg (by omega), cpA_at (by omega), if_neg (by omega), cpA_at (by omega), if_pos rfl, cpA_at (by omega), if_neg (by omega)]
      exact e2 k hk
    · simp [sI_at, cpA_ne, n0, n1, n2, n3, e3]
    · simp [sI_at, cpA_ne, n0, n1, n2, n3, e4]
    · simp [sI_at, cpA_ne, n0, n1, n2, n3, e5]
    · simp [sI_at, cpA_ne, n0, n1, n2, n3, e6]
    · simp [sI_at, cpA_ne, n0, n1, n2, n3, e7]
    · simp [sI_at, cpA_ne, n0, n1, n2, n3, e8]
    · simp [sI_at, cpA_ne, n0, n1, n2, n3, e9]
    · rw [← e10 a c ha hc]
      have hlt : (hN m - 1 - a) % 60 * 5 + c < 300 := by
        have := Nat.mod_lt (hN m - 1 - a) (show 60 > 0 by decide)
        omega
      simp only [sI_at]
      rw [if_neg (by omega), if_neg (by omega), if_neg (by omega), if_neg (by omega), if_neg (by omega), if_neg (by omega), if_neg (by omega), cpA_at (fun _ => hlt), if_pos rfl, cpA_at (by omega), if_neg (by omega), cpA_at (by omega), if_neg (by omega)]
  · exact (((((((((Fr.cpA (by simp)).tr (Fr.cpA (by simp))).tr (Fr.cpA (by simp))).tr (Fr.sI (by simp))).tr (Fr.sI (by simp))).tr (Fr.sI (by simp))).tr (Fr.sI (by simp))).tr (Fr.sI (by simp))).tr (Fr.sI (by simp))).tr (Fr.sI (by simp))
theorem copyL (HL : LSpec LR LK) {L1 L2 : Nat} (h1 : kd L1 = 2) (h2 : kd L2 = 2) (hne : L1 ≠ L2) (h : LR M L2 m) : Tr (f_X2_copyFrom M L1 L2) (fun N => LR N L1 m ∧ Fr [L1, L1 + 1, L1 + 2, L1 + 3, L1 + 4] M N) := by
  have k1 := (lnL h1).2.2.2.2.2
  have k2 := (lnL h2).2.2.2.2.2
  unfold f_X2_copyFrom
  simp only [Option.bind_some]
  refine Tr.some ⟨?_, ?_⟩
  · have n0 : ¬ L2 = L1 := by omega
    have n1 : ¬ L2 = L1 + 1 := by omega
    have n2 : ¬ L2 = L1 + 2 := by omega
    have n3 : ¬ L2 = L1 + 3 := by omega
    have n4 : ¬ L2 = L1 + 4 := by omega
    refine HL.2.2.2.2.2.2.1 M _ L2 L1 m h (fun j hj1 hj2 k hk => ?_) ?_ ?_
    · simp only [sI_at]
      rw [if_neg (by omega), if_neg (by omega)]
      have hc : j = 1 ∨ j = 2 ∨ j = 3 ∨ j = 4 := by omega
      rcases hc with rfl | rfl | rfl | rfl
      · rw [if_neg (by decide)] at hk
        rw [cpA_at (by omega), if_neg (by omega), cpA_at (by omega), if_neg (by omega), cpA_at (by omega), if_neg (by omega), cpA_at (fun _ => hk), if_pos rfl]
      · rw [if_neg (by decide)] at hk
        rw [cpA_at (by omega), if_neg (by omega), cpA_at (by omega), if_neg (by omega), cpA_at (fun _ => hk), if_pos rfl, cpA_at (by omega), if_neg (by omega)]
      · rw [if_neg (by decide)] at hk
        rw [cpA_at (by omega), if_neg (by omega), cpA_at (fun _ => hk), if_pos rfl, cpA_at (by omega), if_neg (by omega), cpA_at (by omega), if_neg (by omega)]
      · rw [if_pos rfl] at hk
        rw [cpA_at (fun _ => hk), if_pos rfl, cpA_at (by omega), if_neg (by omega), cpA_at (by omega), if_neg (by omega), cpA_at (by omega), if_neg (by omega)]
    · simp only [gI]
      simp [sI_at, cpA_ne, n0, n1, n2, n3, n4]
    · simp only [gI]
      simp [sI_at, cpA_ne, n0, n1, n2, n3, n4]
  · exact (((((Fr.cpA (by simp)).tr (Fr.cpA (by simp))).tr (Fr.cpA (by simp))).tr (Fr.cpA (by simp))).tr (Fr.sI (by simp))).tr (Fr.sI (by simp))
end MUT
