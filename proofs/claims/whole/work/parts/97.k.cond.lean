/-! the class reads a condition: what is opened, what is closed -/
section LAWK
variable {tx : Nat → Int32} {e i j k r b f c a d n q w L : Nat} {M N K : Mm} {x y s op : Int32} {p out st : List Int32} {v : Bool} {R : GP}
theorem sttl_ok (hop : op = 1024 ∨ op = 1025) : ∀ st out, wsh st → wsh (sttl op st out).1 ∧ tpG op (sttl op st out).1 ∧ dp (sttl op st out).1 ≤ dp st ∧ (sttl op st out).2.length + (sttl op st out).1.length = out.length + st.length := by
  intro st
  induction st with
  | nil => intro out h; exact ⟨h, trivial, Nat.le_refl _, rfl⟩
  | cons x st ih =>
    intro out h
    by_cases c : x ≤ op
    · rw [sttl, if_pos c]
      obtain ⟨h1, h2, h3, h4⟩ := ih (out ++ [x]) h.1
      refine ⟨h1, h2, by rw [dp]; omega, ?_⟩
      rw [h4, len1, List.length_cons]; omega
    · rw [sttl, if_neg c]
      exact ⟨h, c, Nat.le_refl _, rfl⟩
theorem sttl_dp0 : ∀ st out, wsh st → dp st = 0 → (sttl 1025 st out).1 = [] := by
  intro st
  induction st with
  | nil => intro out h hd; rfl
  | cons x st ih =>
    intro out h hd
    rw [dp] at hd
    have hx : ¬ (x = 1023 ∨ x = 1026) := fun hx => by rw [if_pos hx] at hd; omega
    have c : x ≤ 1025 := by
      rcases h.2 with rfl | rfl | ⟨rfl, -⟩ | ⟨rfl, -⟩
      · decide
      · exact absurd (Or.inr rfl) hx
      · decide
      · decide
    rw [sttl, if_pos c]
    exact ih _ h.1 (by omega)
/-- the class stands as the machine -/
def CSt (tx : Nat → Int32) (e L : Nat) (M : Mm) (t : Bool) (st out : List Int32) (i : Nat) (R : GP) : Prop := StO M st (dp st) ∧ wsh st ∧ dp st ≤ 6 ∧ RdS M 104 tx e i ∧ PrC M L out ∧ out.length + st.length + (if t = true then 1 else 0) ≤ bg tx e i ∧ ∃ kk, mach tx e kk t st out i = some R
theorem opensC (hL : kd L = 2) (he : e ≤ 400) (h : CSt tx e L M true st out i R) : Tr (f_X3_readOpenings M) (fun z => FrL L M z.2 ∧ ((z.1 = false ∧ ∃ b, R = .inl b ∧ z.2.1 104 8 = nI (bg tx e b)) ∨ (z.1 = true ∧ z.2.1 104 8 = M.1 104 8 ∧ ∃ st' i', i ≤ i' ∧ ¬ (wdT tx e i' = 313 ∨ wdT tx e i' = 323) ∧ CSt tx e L z.2 true st' out i' R))) := by
  have hr : rOK 104 := Or.inr rfl
  unfold f_X3_readOpenings
  refine Tr.bind (Q := fun r : (Bool × Mm) ⊕ Mm => Tr (Sum.elim (fun v => some v) (fun e_9 => some (true, e_9)) r) (fun z => FrL L M z.2 ∧ ((z.1 = false ∧ ∃ b, R = .inl b ∧ z.2.1 104 8 = nI (bg tx e b)) ∨ (z.1 = true ∧ z.2.1 104 8 = M.1 104 8 ∧ ∃ st' i', i ≤ i' ∧ ¬ (wdT tx e i' = 313 ∨ wdT tx e i' = 323) ∧ CSt tx e L z.2 true st' out i' R)))) ?_ (fun r hr2 => hr2)
  refine lp0 (fun k (N : Mm) => (N, nI k)) 7 (fun k N => FrL L M N ∧ N.1 104 8 = M.1 104 8 ∧ ∃ st' i', i ≤ i' ∧ k ≤ dp st' ∧ CSt tx e L N true st' out i' R) (by decide) M rfl ⟨FrL.rf, rfl, st, i, Nat.le_refl _, Nat.zero_le _, h⟩ (fun k N hk hP => ?_) (fun N hP => ?_)
  · obtain ⟨f1, f2, st', i', g0, g1, c1, c2, c3, c4, c5, c6, kk, c7⟩ := hP
    have hle := bg_le (tx := tx) he i'
    have hlen := wsh_21 c2 c3
    rw [if_pos rfl] at c6
    show Tr (f_X3_readOpenings_L2 N (nI k)) _
    unfold f_X3_readOpenings_L2
    rw [if_neg (by rw [show (6 : Int32) = nI 6 from rfl, nI_ltI (by omega) (by omega)]; omega), c4.wd.1, Option.bind_some, if_pos isW_wd, Option.bind_some, if_pos isW_wd]
    -- the machine's step
    have stp2 : ∀ t : Int32, (wdT tx e i' = 313 ∨ wdT tx e i' = 323) → (if wdT tx e i' = 313 then 1023 else 1026 : Int32) = t → (∀ M2 : Mm, (some (gR M2 104 5)).bind (fun q3 => if isW q3 = true then (if q3 = 313 then (f_X3_readOpenings_J2_84 M2 (nI k) 1023) else (f_X3_readOpenings_J2_84 M2 (nI k) 1026)) else none) = if isW (gR M2 104 5) = true then (if gR M2 104 5 = 313 then (f_X3_readOpenings_J2_84 M2 (nI k) 1023) else (f_X3_readOpenings_J2_84 M2 (nI k) 1026)) else none) → Tr (f_X3_readOpenings_J2_34 N (nI k)) (fun x => (∃ s' : Mm, x = .inl (s', nI (k + 1)) ∧ (FrL L M s' ∧ s'.1 104 8 = M.1 104 8 ∧ ∃ st' i', i ≤ i' ∧ k + 1 ≤ dp st' ∧ CSt tx e L s' true st' out i' R)) ∨ ∃ r, x = .inr r ∧ Tr (Sum.elim (fun v => some v) (fun e_9 => some (true, e_9)) r) (fun z => FrL L M z.2 ∧ ((z.1 = false ∧ ∃ b, R = .inl b ∧ z.2.1 104 8 = nI (bg tx e b)) ∨ (z.1 = true ∧ z.2.1 104 8 = M.1 104 8 ∧ ∃ st' i', i ≤ i' ∧ ¬ (wdT tx e i' = 313 ∨ wdT tx e i' = 323) ∧ CSt tx e L z.2 true st' out i' R)))) := fun t hw ht _ => by
      have hd : gI N 102 3 = nI (dp st') := c1.2.1
      cases kk with
      | zero => exact nomatch c7
      | succ kk =>
        rw [mach, if_pos hw] at c7
        unfold f_X3_readOpenings_J2_34
        rw [hd]
        by_cases h6 : 6 ≤ dp st'
        · rw [if_pos h6] at c7
          rw [if_neg (by rw [show (6 : Int32) = nI 6 from rfl, nI_ltI (by omega) (by omega)]; omega), refuseC c4, Option.bind_some]
          refine Tr.some (Or.inr ⟨_, rfl, Tr.some ⟨f1.tr (FrL.r104 hL (Fr.sI (by simp))), Or.inl ⟨rfl, i', (Option.some.inj c7).symm, ?_⟩⟩⟩)
          show (sI N 104 8 _).1 104 8 = _
          rw [sI_at, if_pos ⟨rfl, rfl⟩]
        · rw [if_neg h6, ht] at c7
          rw [if_pos (by rw [show (6 : Int32) = nI 6 from rfl, nI_ltI (by omega) (by omega)]; omega), l_1, nI_add, Option.bind_some]
          have sA : StO (sI N 102 3 (nI (dp st' + 1))) st' (dp st' + 1) := ⟨by rw [sI_at, if_neg (by omega)]; exact c1.1, by rw [sI_at, if_pos ⟨rfl, rfl⟩], fun k hk => by rw [sI_fn (by decide)]; exact c1.2.2 k hk⟩
          have rA : RdS (sI N 102 3 (nI (dp st' + 1))) 104 tx e i' := c4.fr (fun j h1 h2 => ⟨sI_fn (by omega), rfl⟩)
          have fA : Fr [102, 103] N (sI N 102 3 (nI (dp st' + 1))) := Fr.sI (by simp)
          have eA : (sI N 102 3 (nI (dp st' + 1))).1 104 8 = N.1 104 8 := by rw [sI_fn (by decide)]
          generalize sI N 102 3 (nI (dp st' + 1)) = A at sA rA fA eA
          obtain ⟨B, b1, b2, b3⟩ := leaveC sA (by omega) t
          have pB : PrC B L out := c5.fr hL ((fA.tr b3).mono (by simp))
          have rB : RdS B 104 tx e i' := rA.fr (fun j h1 h2 => ⟨(b3 j (by simp; omega)).1, (b3 j (by simp; omega)).2.2⟩)
          have eB : B.1 104 8 = N.1 104 8 := (congrFun (b3 104 (by simp)).1 8).trans eA
          have ts : t = 1023 ∨ t = 1026 := by
            by_cases hh : wdT tx e i' = 313
            · rw [if_pos hh] at ht; exact Or.inl ht.symm
            · rw [if_neg hh] at ht; exact Or.inr ht.symm
          have dB : dp (t :: st') = dp st' + 1 := by rw [dp, if_pos ts]
          have up := bg_up he (show wdT tx e i' ≠ 330 by omega)
          have nx : Tr (f_X3_readOpenings_J2_84 A (nI k) t) (fun x => (∃ s' : Mm, x = .inl (s', nI (k + 1)) ∧ (FrL L M s' ∧ s'.1 104 8 = M.1 104 8 ∧ ∃ st' i', i ≤ i' ∧ k + 1 ≤ dp st' ∧ CSt tx e L s' true st' out i' R)) ∨ ∃ r, x = .inr r ∧ Tr (Sum.elim (fun v => some v) (fun e_9 => some (true, e_9)) r) (fun z => FrL L M z.2 ∧ ((z.1 = false ∧ ∃ b, R = .inl b ∧ z.2.1 104 8 = nI (bg tx e b)) ∨ (z.1 = true ∧ z.2.1 104 8 = M.1 104 8 ∧ ∃ st' i', i ≤ i' ∧ ¬ (wdT tx e i' = 313 ∨ wdT tx e i' = 323) ∧ CSt tx e L z.2 true st' out i' R)))) := by
            unfold f_X3_readOpenings_J2_84
            rw [b1, Option.bind_some]
            refine Tr.bind (nextC hr he rB) (fun C hC => ?_)
            obtain ⟨n1, n2, n3⟩ := hC
            rw [l_1, nI_add]
            refine Tr.some (Or.inl ⟨C, rfl, (f1.tr (FrL.stk hL (fA.tr b3))).tr (FrL.r104 hL n2), (n3.trans eB).trans f2, t :: st', i' + 1, by omega, by omega, ?_, ⟨c2, ts.elim Or.inl (fun h => Or.inr (Or.inl h))⟩, by omega, n1, pB.f1 hL n2, ?_, kk, c7⟩)
            · rw [dB]; exact b2.fr (n2 102 (by simp)).1 (n2 103 (by simp)).1
            · rw [if_pos rfl, List.length_cons]; omega
          rw [rA.wd.1, Option.bind_some, if_pos isW_wd]
          by_cases hh : wdT tx e i' = 313
          · rw [if_pos hh] at ht ⊢; rw [ht]; exact nx
          · rw [if_neg hh] at ht ⊢; rw [ht]; exact nx
    by_cases w1 : wdT tx e i' = 313
    · rw [if_pos w1]
      exact stp2 _ (Or.inl w1) rfl (fun _ => rfl)
    · rw [if_neg w1]
      by_cases w2 : wdT tx e i' = 323
      · rw [if_pos w2]
        exact stp2 _ (Or.inr w2) rfl (fun _ => rfl)
      · rw [if_neg w2]
        exact Tr.some (Or.inr ⟨_, rfl, Tr.some ⟨f1, Or.inr ⟨rfl, f2, st', i', g0, by omega, c1, c2, c3, c4, c5, by rw [if_pos rfl]; exact c6, kk, c7⟩⟩⟩)
  · obtain ⟨f1, f2, st', i', g0, g1, c1, c2, c3, c4, c5, c6⟩ := hP
    omega
end LAWK
