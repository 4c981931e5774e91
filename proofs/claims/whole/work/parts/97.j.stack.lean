/-! the class's stack of operations that wait -/
section LAWJ
variable {tx : Nat → Int32} {e i j k r b f c a d n q w L : Nat} {M N K : Mm} {x y s op : Int32} {p out st : List Int32} {v : Bool} {R : GP}
theorem ln103 : ln 103 = 21 := by decide
def StO (M : Mm) (st : List Int32) (d : Nat) : Prop := M.1 102 2 = nI st.length ∧ M.1 102 3 = nI d ∧ ∀ k, k < st.length → M.1 103 k = st.reverse.getD k 0
theorem StO.fr (h : StO M st d) (h1 : N.1 102 = M.1 102) (h2 : N.1 103 = M.1 103) : StO N st d := ⟨by rw [h1]; exact h.1, by rw [h1]; exact h.2.1, fun k hk => by rw [h2]; exact h.2.2 k hk⟩
theorem StO.f3 (hL : kd L = 2) (h : StO M st d) (hF : Fr3 L M N) : StO N st d := by
  have := (lnL hL).2.2.2.2.2
  exact h.fr (hF.1 102 (by simp; omega)).1 (hF.1 103 (by simp; omega)).1
theorem Fr3.l (h : Fr3 L M N) : FrL L M N := ⟨h.1.mono (by simp), h.2⟩
theorem FrL.stk (hL : kd L = 2) (h : Fr [102, 103] M N) : FrL L M N := by
  have := (lnL hL).2.2.2.2.2
  exact ⟨h.mono (by simp), fun c _ => congrFun (h L (by simp; omega)).1 c⟩
/-- how the waiting operations stand upon each other -/
def wsh : List Int32 → Prop
  | [] => True
  | x :: st => wsh st ∧ (x = 1023 ∨ x = 1026 ∨ (x = 1024 ∧ tpG 1024 st) ∨ (x = 1025 ∧ tpG 1025 st))
def tpN : List Int32 → Nat
  | [] => 0
  | x :: _ => if x = 1024 then 2 else if x = 1025 then 1 else 0
theorem tpN_c {y : Int32} : tpN (y :: st) = if y = 1024 then 2 else if y = 1025 then 1 else 0 := rfl
theorem tpN2 (st : List Int32) : tpN st ≤ 2 := by
  cases st with
  | nil => exact Nat.zero_le _
  | cons y st =>
    rw [tpN_c]
    by_cases c : y = 1024
    · rw [if_pos c]; exact Nat.le_refl _
    · rw [if_neg c]
      by_cases d : y = 1025
      · rw [if_pos d]; decide
      · rw [if_neg d]; decide
theorem wsh_len : ∀ st, wsh st → st.length ≤ 3 * dp st + tpN st := by
  intro st
  induction st with
  | nil => intro _; exact Nat.zero_le _
  | cons x st ih =>
    intro h
    have h1 := ih h.1
    have t2 := tpN2 st
    rw [List.length_cons, dp]
    rcases h.2 with rfl | rfl | ⟨rfl, h2⟩ | ⟨rfl, h2⟩
    · rw [if_pos (Or.inl rfl)]; omega
    · rw [if_pos (Or.inr rfl)]; omega
    · have : tpN st ≤ 1 := by
        cases st with
        | nil => exact Nat.zero_le _
        | cons y st =>
          rw [tpN_c, if_neg (fun hy => h2 (by rw [hy]; exact Int32.le_refl _))]
          by_cases d : y = 1025
          · rw [if_pos d]; exact Nat.le_refl _
          · rw [if_neg d]; decide
      rw [show tpN (1024 :: st) = 2 from rfl]; omega
    · have : tpN st = 0 := by
        cases st with
        | nil => rfl
        | cons y st =>
          rw [tpN_c, if_neg (fun hy => h2 (by rw [hy]; decide)), if_neg (fun hy => h2 (by rw [hy]; decide))]
      rw [show tpN (1025 :: st) = 1 from rfl]; omega
theorem wsh_21 (h : wsh st) (hd : dp st ≤ 6) : st.length ≤ 20 := by
  have := wsh_len st h
  have t2 := tpN2 st
  omega
theorem leaveC (h : StO M st d) (hl : st.length < 21) (op : Int32) : ∃ N, f_X3_leaveOpen M op = some N ∧ StO N (op :: st) d ∧ Fr [102, 103] M N := by
  unfold f_X3_leaveOpen
  rw [show gI M 102 2 = nI st.length from h.1, put_nI ln103 hl, Option.bind_some, show gI (sI M 103 st.length op) 102 2 = nI st.length from (by show (sI M 103 st.length op).1 102 2 = _; rw [sI_at, if_neg (by omega)]; exact h.1), l_1, nI_add, Option.bind_some]
  refine ⟨_, rfl, ⟨?_, ?_, fun k hk => ?_⟩, (Fr.sI (by simp)).tr (Fr.sI (by simp))⟩
  · rw [sI_at, if_pos ⟨rfl, rfl⟩]; rfl
  · rw [sI_at, if_neg (by omega), sI_at, if_neg (by omega)]; exact h.2.1
  · rw [List.length_cons] at hk
    rw [sI_at, if_neg (by omega), sI_at, List.reverse_cons]
    by_cases c : k = st.length
    · rw [if_pos ⟨rfl, c⟩, c]
      have := gD_r (l := st.reverse) (l2 := [op]) (d := 0) (k := 0)
      rw [Nat.add_zero, List.length_reverse] at this
      exact this.symm
    · rw [if_neg (by omega), gD_l (by rw [List.length_reverse]; omega)]
      exact h.2.2 k (by omega)
theorem top_at (h : StO M (x :: st) d) (hl : (x :: st).length ≤ 21) : t_X9_at M 103 (nI st.length) = x := by
  rw [List.length_cons] at hl
  rw [at_nI ln103 (by omega), h.2.2 _ (by rw [List.length_cons]; omega), List.reverse_cons]
  have := gD_r (l := st.reverse) (l2 := [x]) (d := 0) (k := 0)
  rw [Nat.add_zero, List.length_reverse] at this
  exact this
theorem StO.pop {z : Int32} (h : StO M (x :: st) d) (h2 : N.1 102 2 = nI st.length) (h3 : N.1 102 3 = nI n) (h4 : N.1 103 = M.1 103) : StO N st n := by
  refine ⟨h2, h3, fun k hk => ?_⟩
  rw [h4, h.2.2 k (by rw [List.length_cons]; omega), List.reverse_cons, gD_l (by rw [List.length_reverse]; omega)]
theorem settleC (hL : kd L = 2) (hop : op = 1024 ∨ op = 1025) (h : StO M st (dp st)) (hp : PrC M L out) (hl : st.length ≤ 21) (hb : out.length + st.length ≤ 400) : Tr (f_X3_settle M L op) (fun N => StO N (sttl op st out).1 (dp (sttl op st out).1) ∧ PrC N L (sttl op st out).2 ∧ Fr [L, L + 4, 102] M N ∧ ∀ c, c ≠ 5 → N.1 L c = M.1 L c) := by
  obtain ⟨-, -, -, -, -, l6, l7, l8⟩ := lnL hL
  unfold f_X3_settle
  generalize hS : sttl op st out = S
  refine Tr.bind ?_ (fun r hr2 => Tr.some hr2)
  refine lpV (fun m N => ∃ st' out', m = st'.length ∧ StO N st' (dp st') ∧ PrC N L out' ∧ sttl op st' out' = S ∧ st'.length ≤ 21 ∧ out'.length + st'.length ≤ 400 ∧ Fr [L, L + 4, 102] M N ∧ ∀ c, c ≠ 5 → N.1 L c = M.1 L c) (fun m N hN => ?_) FU st.length M (by show st.length < 10000; omega) ⟨st, out, rfl, h, hp, hS, hl, hb, Fr.rf, fun _ _ => rfl⟩
  obtain ⟨st', out', rfl, g1, g2, g3, g4, g5, g6, g7⟩ := hN
  unfold f_X3_settle_L0
  cases st' with
  | nil =>
    rw [show gI N 102 2 = nI 0 from g1.1, if_pos (by decide)]
    refine Tr.some (Or.inr ⟨N, rfl, ?_⟩)
    rw [← g3]
    exact ⟨g1, g2, g6, g7⟩
  | cons x st' =>
    rw [List.length_cons] at g4 g5
    rw [show gI N 102 2 = nI (st'.length + 1) from g1.1, if_neg (by rw [show (0 : Int32) = nI 0 from rfl, nI_leI (by omega) (by omega)]; omega), nI_less1 (by omega), Nat.add_sub_cancel, top_at g1 (by rw [List.length_cons]; omega)]
    by_cases c : x ≤ op
    · rw [if_neg (Int32.not_lt.mpr c), Option.bind_some]
      rw [sttl, if_pos c] at g3
      have gA : gI (sI N 102 2 (nI st'.length)) 102 2 = nI st'.length := by show (sI N 102 2 _).1 102 2 = _; rw [sI_at, if_pos ⟨rfl, rfl⟩]
      have tA : t_X9_at (sI N 102 2 (nI st'.length)) 103 (nI st'.length) = x := by
        rw [at_nI ln103 (by omega), sI_fn (by decide), ← at_nI (M := N) ln103 (show st'.length < 21 by omega)]
        exact top_at g1 (by rw [List.length_cons]; omega)
      have dA : gI (sI N 102 2 (nI st'.length)) 102 3 = nI (dp (x :: st')) := by show (sI N 102 2 _).1 102 3 = _; rw [sI_at, if_neg (by omega)]; exact g1.2.1
      rw [gA, tA, Option.bind_some, dA]
      have x26 : x ≠ 1026 := fun hx => by
        rw [hx] at c
        rcases hop with rfl | rfl
        · exact absurd c (by decide)
        · exact absurd c (by decide)
      have fin : ∀ t d2, nI (dp (x :: st')) - t = nI d2 → d2 = dp st' → Tr (f_X3_settle_J0_63 (sI N 102 2 (nI st'.length)) L op x t (nI (dp (x :: st')))) (fun z => (∃ m' s', z = .inl s' ∧ (∃ st' out', m' = st'.length ∧ StO s' st' (dp st') ∧ PrC s' L out' ∧ sttl op st' out' = S ∧ st'.length ≤ 21 ∧ out'.length + st'.length ≤ 400 ∧ Fr [L, L + 4, 102] M s' ∧ ∀ c, c ≠ 5 → s'.1 L c = M.1 L c) ∧ m' < (x :: st').length) ∨ ∃ r, z = .inr r ∧ StO r S.1 (dp S.1) ∧ PrC r L S.2 ∧ Fr [L, L + 4, 102] M r ∧ ∀ c, c ≠ 5 → r.1 L c = M.1 L c) := fun t d2 ht hd => by
        unfold f_X3_settle_J0_63
        rw [ht, Option.bind_some]
        have pB : PrC (sI (sI N 102 2 (nI st'.length)) 102 3 (nI d2)) L out' := g2.fr hL ((Fr.sI (by simp)).tr (Fr.sI (by simp)))
        have sB : StO (sI (sI N 102 2 (nI st'.length)) 102 3 (nI d2)) st' (dp st') := StO.pop (z := x) g1 (by rw [sI_at, if_neg (by omega), sI_at, if_pos ⟨rfl, rfl⟩]) (by rw [sI_at, if_pos ⟨rfl, rfl⟩, hd]) (by rw [sI_fn (by decide), sI_fn (by decide)])
        have fB : Fr [102] N (sI (sI N 102 2 (nI st'.length)) 102 3 (nI d2)) := (Fr.sI (by simp)).tr (Fr.sI (by simp))
        generalize sI (sI N 102 2 (nI st'.length)) 102 3 (nI d2) = B at pB sB fB
        obtain ⟨C, c1, c2, c3, c4⟩ := addOp hL pB (by omega) x
        rw [c1, Option.bind_some]
        refine Tr.some (Or.inl ⟨st'.length, C, rfl, ⟨st', out' ++ [x], rfl, ?_, c2, g3, by omega, ?_, ?_, fun c hc => ?_⟩, by rw [List.length_cons]; omega⟩)
        · exact sB.fr (c3 102 (by simp; omega)).1 (c3 103 (by simp; omega)).1
        · rw [len1]; omega
        · exact (g6.tr (fB.mono (by simp))).tr (c3.mono (by simp))
        · exact ((c4 c hc).trans (congrFun (fB L (by simp; omega)).1 c)).trans (g7 c hc)
      by_cases c3 : x = 1023
      · rw [if_pos c3]
        have : dp (x :: st') = dp st' + 1 := by rw [dp, if_pos (Or.inl c3)]
        exact fin 1 (dp st') (by rw [this, nI_less1 (by omega), Nat.add_sub_cancel]) rfl
      · rw [if_neg c3]
        have : dp (x :: st') = dp st' := by rw [dp, if_neg (by rintro (h | h); exact c3 h; exact x26 h), Nat.add_zero]
        exact fin 0 (dp st') (by rw [this, Int32.sub_zero]) rfl
    · rw [if_pos (Int32.not_le.mp c)]
      rw [sttl, if_neg c] at g3
      refine Tr.some (Or.inr ⟨N, rfl, ?_⟩)
      rw [← g3]
      exact ⟨g1, g2, g6, g7⟩
end LAWJ
