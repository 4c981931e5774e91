/-! feed: the bytes behind the tape, each side -/
section FEED
variable {LR : Mm → Nat → (Nat → Int32) → Prop} {LK : (Nat → Int32) → Nat → Nat → Int32 → Int32} {n : Nat} {M N Mc Mr Nc Nr : Mm} {A : Nat} {x x1 x2 x3 x4 x5 w : Int32}
theorem i_nI (y : Int32) : y = nI y.toUInt32.toNat := by
  apply Int32.toBitVec_inj.1
  show y.toBitVec = BitVec.ofNat 32 y.toBitVec.toNat
  simp
theorem isN255 (y : Int32) : isN (y &&& 255) 255 := by
  rw [i_nI y, show (255 : Int32) = nI 255 from rfl, nx_and]
  exact isN_nI Nat.and_le_right (by decide)
def by4 (w : Int32) (j : Nat) : Int32 := iush w (nI (24 - 8 * j)) &&& 255
theorem apC (hA : M.1 1 1 = nI A) (h2 : A + 4 ≤ 400) : Tr (f_X9_append M w) (fun N => Fr [1, 2] M N ∧ (∀ b, b ≠ 1 → N.1 1 b = M.1 1 b) ∧ N.1 1 1 = nI (A + 4) ∧ (∀ k, N.1 2 k = if A ≤ k ∧ k < A + 4 then by4 w (k - A) else M.1 2 k) ∧ N.2 = M.2) := by
  unfold f_X9_append
  refine Tr.bind (Q := fun N => Fr [1, 2] M N ∧ (∀ b, b ≠ 1 → N.1 1 b = M.1 1 b) ∧ N.1 1 1 = nI (A + 4) ∧ (∀ k, N.1 2 k = if A ≤ k ∧ k < A + 4 then by4 w (k - A) else M.1 2 k) ∧ N.2 = M.2) ?_ (fun N hN => Tr.some hN)
  refine lp0 (fun i (N : Mm) => (N, if i < 4 then nI (24 - 8 * i) else -8)) 4 (fun i N => Fr [1, 2] M N ∧ (∀ b, b ≠ 1 → N.1 1 b = M.1 1 b) ∧ N.1 1 1 = nI (A + i) ∧ (∀ k, N.1 2 k = if A ≤ k ∧ k < A + i then by4 w (k - A) else M.1 2 k) ∧ N.2 = M.2) (by decide) M rfl ⟨Fr.rf, fun _ _ => rfl, hA, fun k => by rw [if_neg (by omega)], rfl⟩ (fun i N hi hP => ?_) (fun N hP => ?_)
  · obtain ⟨hF, h1, h3, h4, h5⟩ := hP
    have nx : nI (24 - 8 * i) + (-8) = if i + 1 < 4 then nI (24 - 8 * (i + 1)) else -8 := by
      have : i = 0 ∨ i = 1 ∨ i = 2 ∨ i = 3 := by omega
      rcases this with rfl | rfl | rfl | rfl <;> decide
    have e : f_X9_append_L3 N w (nI (24 - 8 * i)) = some (.inl (sI (sI N 2 (A + i) (by4 w i)) 1 1 (nI (A + (i + 1))), if i + 1 < 4 then nI (24 - 8 * (i + 1)) else -8)) := by
      unfold f_X9_append_L3
      rw [if_neg (nI_pos (by omega)), show gI N 1 1 = nI (A + i) from h3, put_nI (N := 400) (by decide) (by omega), Option.bind_some]
      have g : gI (sI N 2 (A + i) (iush w (nI (24 - 8 * i)) &&& 255)) 1 1 = nI (A + i) := by
        show (sI N 2 (A + i) _).1 1 1 = _
        rw [sI_fn (show 1 ≠ 2 by decide)]; exact h3
      rw [g, Option.bind_some, nx, l_1, nI_add]
      rfl
    refine Tr.cg (o2 := f_X9_append_L3 N w (nI (24 - 8 * i))) (by show f_X9_append_L3 N w (if i < 4 then nI (24 - 8 * i) else -8) = _; rw [if_pos hi]) (Tr.cg e ?_)
    refine Tr.some (Or.inl ⟨_, rfl, (hF.tr (Fr.sI (by simp))).tr (Fr.sI (by simp)), fun b hb => ?_, ?_, fun k => ?_, h5⟩)
    · rw [sI_at, if_neg (by omega), sI_fn (show 1 ≠ 2 by decide)]; exact h1 b hb
    · rw [sI_at, if_pos ⟨rfl, rfl⟩]
    · rw [sI_fn (show 2 ≠ 1 by decide), sI_at, h4]
      by_cases e1 : k = A + i
      · rw [if_pos ⟨rfl, e1⟩, if_pos (by omega), e1, show A + i - A = i by omega]
      · rw [if_neg (by omega)]
        by_cases e2 : A ≤ k ∧ k < A + i
        · rw [if_pos e2, if_pos (by omega)]
        · rw [if_neg e2, if_neg (by omega)]
  · have e : f_X9_append_L3 N w (-8) = some (.inr N) := by
      unfold f_X9_append_L3
      rw [if_pos (by decide)]
    exact ⟨_, e, _, rfl, hP⟩
end FEED
