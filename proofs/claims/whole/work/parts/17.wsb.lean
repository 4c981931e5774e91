/-! the first world whole; from the law's entry to its loop -/
section WB
variable {X0 : Cx} {q1 : Nat} {v : V9} {q2 : Nat} {u : Nat → Nat} {q3 : Nat} {H : Heap}
set_option maxRecDepth 100000 in
set_option maxHeartbeats 4000000 in
theorem w_class (h : va_P X0.1 vwCl (Wc_X9_init X0 q1 v) H) : ∀ i, 1 ≤ i → i < 108 → va_at X0.1 vwCl ((XA X0 q1 v q2 u q3).2.2 i, cel (XA X0 q1 v q2 u q3) M0c i) H := by
  have a1 : va_at X0.1 vwCl ((XA X0 q1 v q2 u q3).2.2 1, cel (XA X0 q1 v q2 u q3) M0c 1) H := by
    rw [cl_1]; exact h 0 _ rfl
  have a3 : va_at X0.1 vwCl ((XA X0 q1 v q2 u q3).2.2 3, cel (XA X0 q1 v q2 u q3) M0c 3) H := by
    have e := h 1 _ rfl
    have e2 := up_12 (F := fun j => (XA X0 q1 v q2 u q3).2.2 (12 + 4 * j))
    rw [cl_3, ← e2]; exact e
  unfold Wc_X9_init at h
  have t22 := P_t (P_t h)
  have b22 := wb_22 (q1 := q1) (q2 := q2) (u := u) (q3 := q3) (P_r t22)
  have t21 := P_l t22
  have b21 := wb_21 (q1 := q1) (q2 := q2) (u := u) (q3 := q3) (P_r t21)
  have t20 := P_l t21
  have b20 := wb_20 (q1 := q1) (q2 := q2) (u := u) (q3 := q3) (P_r t20)
  have t19 := P_l t20
  have b19 := wb_19 (q1 := q1) (q2 := q2) (u := u) (q3 := q3) (P_r t19)
  have t18 := P_l t19
  have b18 := wb_18 (q1 := q1) (q2 := q2) (u := u) (q3 := q3) (P_r t18)
  have t17 := P_l t18
  have b17 := wb_17 (q1 := q1) (q2 := q2) (u := u) (q3 := q3) (P_r t17)
  have t16 := P_l t17
  have b16 := wb_16 (q1 := q1) (q2 := q2) (u := u) (q3 := q3) (P_r t16)
  have t15 := P_l t16
  have b15 := wb_15 (q1 := q1) (q2 := q2) (u := u) (q3 := q3) (P_r t15)
  have t14 := P_l t15
  have b14 := wb_14 (q1 := q1) (q2 := q2) (u := u) (q3 := q3) (P_r t14)
  have t13 := P_l t14
  have b13 := wb_13 (q1 := q1) (q2 := q2) (u := u) (q3 := q3) (P_r t13)
  have t12 := P_l t13
  have b12 := wb_12 (q1 := q1) (q2 := q2) (u := u) (q3 := q3) (P_r t12)
  have t11 := P_l t12
  have b11 := wb_11 (q1 := q1) (q2 := q2) (u := u) (q3 := q3) (P_r t11)
  have t10 := P_l t11
  have b10 := wb_10 (q1 := q1) (q2 := q2) (u := u) (q3 := q3) (P_r t10)
  have t9 := P_l t10
  have b9 := wb_9 (q1 := q1) (q2 := q2) (u := u) (q3 := q3) (P_r t9)
  have t8 := P_l t9
  have b8 := wb_8 (q1 := q1) (q2 := q2) (u := u) (q3 := q3) (P_r t8)
  have t7 := P_l t8
  have b7 := wb_7 (q1 := q1) (q2 := q2) (u := u) (q3 := q3) (P_r t7)
  have t6 := P_l t7
  have b6 := wb_6 (q1 := q1) (q2 := q2) (u := u) (q3 := q3) (P_r t6)
  have t5 := P_l t6
  have b5 := wb_5 (q1 := q1) (q2 := q2) (u := u) (q3 := q3) (P_r t5)
  have t4 := P_l t5
  have b4 := wb_4 (q1 := q1) (q2 := q2) (u := u) (q3 := q3) (P_r t4)
  have t3 := P_l t4
  have b3 := wb_3 (q1 := q1) (q2 := q2) (u := u) (q3 := q3) (P_r t3)
  have t2 := P_l t3
  have b2 := wb_2 (q1 := q1) (q2 := q2) (u := u) (q3 := q3) (P_r t2)
  have t1 := P_l t2
  have b1 := wb_1 (q1 := q1) (q2 := q2) (u := u) (q3 := q3) (P_r t1)
  have t0 := P_l t1
  have b0 := wb_0 (q1 := q1) (q2 := q2) (u := u) (q3 := q3) (P_r t0)
  have a2 : va_at X0.1 vwCl ((XA X0 q1 v q2 u q3).2.2 2, cel (XA X0 q1 v q2 u q3) M0c 2) H := by
    rw [cl_ia (n := 2) (by decide)]; exact (P_l t0) 0 _ rfl
  intro i h1 h2
  rcases (show i = 1 ∨ i = 2 ∨ i = 3 ∨ i = 4 ∨ i = 5 ∨ i = 6 ∨ i = 7 ∨ i = 8 ∨ i = 9 ∨ i = 10 ∨ i = 11 ∨ i = 12 ∨ i = 13 ∨ i = 14 ∨ i = 15 ∨ i = 16 ∨ i = 17 ∨ i = 18 ∨ i = 19 ∨ i = 20 ∨ i = 21 ∨ i = 22 ∨ i = 23 ∨ i = 24 ∨ i = 25 ∨ i = 26 ∨ i = 27 ∨ i = 28 ∨ i = 29 ∨ i = 30 ∨ i = 31 ∨ i = 32 ∨ i = 33 ∨ i = 34 ∨ i = 35 ∨ i = 36 ∨ i = 37 ∨ i = 38 ∨ i = 39 ∨ i = 40 ∨ i = 41 ∨ i = 42 ∨ i = 43 ∨ i = 44 ∨ i = 45 ∨ i = 46 ∨ i = 47 ∨ i = 48 ∨ i = 49 ∨ i = 50 ∨ i = 51 ∨ i = 52 ∨ i = 53 ∨ i = 54 ∨ i = 55 ∨ i = 56 ∨ i = 57 ∨ i = 58 ∨ i = 59 ∨ i = 60 ∨ i = 61 ∨ i = 62 ∨ i = 63 ∨ i = 64 ∨ i = 65 ∨ i = 66 ∨ i = 67 ∨ i = 68 ∨ i = 69 ∨ i = 70 ∨ i = 71 ∨ i = 72 ∨ i = 73 ∨ i = 74 ∨ i = 75 ∨ i = 76 ∨ i = 77 ∨ i = 78 ∨ i = 79 ∨ i = 80 ∨ i = 81 ∨ i = 82 ∨ i = 83 ∨ i = 84 ∨ i = 85 ∨ i = 86 ∨ i = 87 ∨ i = 88 ∨ i = 89 ∨ i = 90 ∨ i = 91 ∨ i = 92 ∨ i = 93 ∨ i = 94 ∨ i = 95 ∨ i = 96 ∨ i = 97 ∨ i = 98 ∨ i = 99 ∨ i = 100 ∨ i = 101 ∨ i = 102 ∨ i = 103 ∨ i = 104 ∨ i = 105 ∨ i = 106 ∨ i = 107 by omega) with rfl | rfl | rfl | rfl | rfl | rfl | rfl | rfl | rfl | rfl | rfl | rfl | rfl | rfl | rfl | rfl | rfl | rfl | rfl | rfl | rfl | rfl | rfl | rfl | rfl | rfl | rfl | rfl | rfl | rfl | rfl | rfl | rfl | rfl | rfl | rfl | rfl | rfl | rfl | rfl | rfl | rfl | rfl | rfl | rfl | rfl | rfl | rfl | rfl | rfl | rfl | rfl | rfl | rfl | rfl | rfl | rfl | rfl | rfl | rfl | rfl | rfl | rfl | rfl | rfl | rfl | rfl | rfl | rfl | rfl | rfl | rfl | rfl | rfl | rfl | rfl | rfl | rfl | rfl | rfl | rfl | rfl | rfl | rfl | rfl | rfl | rfl | rfl | rfl | rfl | rfl | rfl | rfl | rfl | rfl | rfl | rfl | rfl | rfl | rfl | rfl | rfl | rfl | rfl | rfl | rfl | rfl
  · exact a1
  · exact a2
  · exact a3
  · exact b0.1
  · exact b0.2.1
  · exact b0.2.2.1
  · exact b0.2.2.2
  · exact b1.1
  · exact b1.2.1
  · exact b1.2.2.1
  · exact b1.2.2.2
  · exact b11.1
  · exact b11.2.1
  · exact b11.2.2.1
  · exact b11.2.2.2
  · exact b12.1
  · exact b12.2.1
  · exact b12.2.2.1
  · exact b12.2.2.2
  · exact b13.1
  · exact b13.2.1
  · exact b13.2.2.1
  · exact b13.2.2.2
  · exact b14.1
  · exact b14.2.1
  · exact b14.2.2.1
  · exact b14.2.2.2
  · exact b15.1
  · exact b15.2.1
  · exact b15.2.2.1
  · exact b15.2.2.2
  · exact b16.1
  · exact b16.2.1
  · exact b16.2.2.1
  · exact b16.2.2.2
  · exact b17.1
  · exact b17.2.1
  · exact b17.2.2.1
  · exact b17.2.2.2
  · exact b18.1
  · exact b18.2.1
  · exact b18.2.2.1
  · exact b18.2.2.2
  · exact b19.1
  · exact b19.2.1
  · exact b19.2.2.1
  · exact b19.2.2.2
  · exact b20.1
  · exact b20.2.1
  · exact b20.2.2.1
  · exact b20.2.2.2
  · exact b21.1
  · exact b21.2.1
  · exact b21.2.2.1
  · exact b21.2.2.2
  · exact b22.1
  · exact b22.2.1
  · exact b22.2.2.1
  · exact b22.2.2.2
  · exact b4.1
  · exact b4.2.1
  · exact b4.2.2.1
  · exact b4.2.2.2
  · exact b2.1
  · exact b2.2.1
  · exact b2.2.2.1
  · exact b2.2.2.2.1
  · exact b2.2.2.2.2.1
  · exact b2.2.2.2.2.2
  · exact b3.1
  · exact b3.2.1
  · exact b3.2.2.1
  · exact b3.2.2.2.1
  · exact b3.2.2.2.2.1
  · exact b3.2.2.2.2.2
  · exact b5.1
  · exact b5.2.1
  · exact b5.2.2.1
  · exact b5.2.2.2.1
  · exact b5.2.2.2.2.1
  · exact b5.2.2.2.2.2
  · exact b6.1
  · exact b6.2.1
  · exact b6.2.2.1
  · exact b6.2.2.2.1
  · exact b6.2.2.2.2
  · exact b7.1
  · exact b7.2.1
  · exact b7.2.2
  · exact b8.1
  · exact b8.2.1
  · exact b8.2.2.1
  · exact b8.2.2.2.1
  · exact b8.2.2.2.2.1
  · exact b8.2.2.2.2.2.1
  · exact b8.2.2.2.2.2.2
  · exact b9.1
  · exact b9.2.1
  · exact b9.2.2.1
  · exact b9.2.2.2.1
  · exact b9.2.2.2.2
  · exact b10.1
  · exact b10.2.1
  · exact b10.2.2.1
  · exact b10.2.2.2.1
  · exact b10.2.2.2.2.1
  · exact b10.2.2.2.2.2
theorem w_model (h : va_P X0.1 vwCl (Wc_X10_init X0 q2 u) H) : ∀ i, 109 ≤ i → i < 126 → va_at X0.1 vwCl ((XA X0 q1 v q2 u q3).2.2 i, cel (XA X0 q1 v q2 u q3) M0r i) H := by
  have b := wb_m (q1 := q1) (v := v) (q2 := q2) (q3 := q3) h
  intro i h1 h2
  rcases (show i = 109 ∨ i = 110 ∨ i = 111 ∨ i = 112 ∨ i = 113 ∨ i = 114 ∨ i = 115 ∨ i = 116 ∨ i = 117 ∨ i = 118 ∨ i = 119 ∨ i = 120 ∨ i = 121 ∨ i = 122 ∨ i = 123 ∨ i = 124 ∨ i = 125 by omega) with rfl | rfl | rfl | rfl | rfl | rfl | rfl | rfl | rfl | rfl | rfl | rfl | rfl | rfl | rfl | rfl | rfl
  · exact b.1
  · exact b.2.1
  · exact b.2.2.1
  · exact b.2.2.2.1
  · exact b.2.2.2.2.1
  · exact b.2.2.2.2.2.1
  · exact b.2.2.2.2.2.2.1
  · exact b.2.2.2.2.2.2.2.1
  · exact b.2.2.2.2.2.2.2.2.1
  · exact b.2.2.2.2.2.2.2.2.2.1
  · exact b.2.2.2.2.2.2.2.2.2.2.1
  · exact b.2.2.2.2.2.2.2.2.2.2.2.1
  · exact b.2.2.2.2.2.2.2.2.2.2.2.2.1
  · exact b.2.2.2.2.2.2.2.2.2.2.2.2.2.1
  · exact b.2.2.2.2.2.2.2.2.2.2.2.2.2.2.1
  · exact b.2.2.2.2.2.2.2.2.2.2.2.2.2.2.2.1
  · exact b.2.2.2.2.2.2.2.2.2.2.2.2.2.2.2.2
theorem w_all (h : va_P X0.1 vwCl (wsA X0 q1 v q2 u q3) H) : WDP (XA X0 q1 v q2 u q3) 3 (mk3 M0c M0r (fun _ => 0)) H := by
  refine WDP_of (fun i h1 h2 => ?_)
  simp [wlo, wln] at h1 h2
  have g0 : va_P X0.1 vwCl ([] ++ Wc_X9_init X0 q1 v) H := P_l (P_l h)
  have g1 : va_P X0.1 vwCl (Wc_X9_init X0 q1 v) H := g0
  have g2 : va_P X0.1 vwCl (Wc_X10_init X0 q2 u) H := P_r (P_l h)
  rcases Nat.lt_or_ge i 108 with k1 | k1
  · rw [cel_same (M := M0c) (M1 := mk3 M0c M0r (fun _ => 0)) (sel3_c h1 k1) (sel3_c h1 k1) (sel3_c h1 k1)]
    exact w_class g1 i h1 k1
  · by_cases k2 : i = 108
    · subst k2
      rw [cel_j (by decide)]
      have e : (mk3 M0c M0r (fun _ => 0)).2.1 108 = fun _ => 0 := sel3_g (a := M0c.2.1) (b := M0r.2.1) (d := 0)
      rw [e]
      exact P_r h 0 _ rfl
    · rw [cel_same (M := M0r) (M1 := mk3 M0c M0r (fun _ => 0)) (sel3_r (by omega) h2) (sel3_r (by omega) h2) (sel3_r (by omega) h2)]
      exact w_model g2 i (by omega) h2
theorem w_pos {i : Nat} (h1 : 1 ≤ i) (h2 : i < 126) : ∃ q : Nat × va_E, (wsA X0 q1 v q2 u q3)[posL.getD i 0]? = some q ∧ q.1 = (XA X0 q1 v q2 u q3).2.2 i := by
  have e := congrArg (fun l => l[posL.getD i 0]?) (w_ad (X0 := X0) (q1 := q1) (v := v) (q2 := q2) (u := u) (q3 := q3))
  simp only [List.getElem?_map] at e
  have hl : posL.getD i 0 < (adW q1 v q2 u q3).length := pos_lt i h2
  rw [List.getElem?_eq_getElem hl] at e
  cases hq : (wsA X0 q1 v q2 u q3)[posL.getD i 0]? with
  | none => rw [hq] at e; cases e
  | some q =>
    rw [hq] at e
    refine ⟨q, rfl, ?_⟩
    have e2 : q.1 = (adW q1 v q2 u q3)[posL.getD i 0] := Option.some.inj e
    rw [e2]
    show _ = if i < 126 then (adW q1 v q2 u q3).getD (posL.getD i 0) 0 else _
    have e3 : ∀ (l : List Nat) (p : Nat) (hp : p < l.length), l[p] = l.getD p 0 := fun l p hp => by rw [List.getD_eq_getElem?_getD, List.getElem?_eq_getElem hp]; rfl
    rw [if_pos h2]
    exact e3 _ _ hl
theorem w_CXi {A : Nat → Prop} (h : va_D A (wsA X0 q1 v q2 u q3)) : CXi (XA X0 q1 v q2 u q3) 3 := by
  intro i j h1 h2 h3 h4 he
  simp [wlo, wln] at h1 h2 h3 h4
  obtain ⟨p, p1, p2⟩ := w_pos (X0 := X0) (q1 := q1) (v := v) (q2 := q2) (u := u) (q3 := q3) h1 h2
  obtain ⟨q, e1, e2⟩ := w_pos (X0 := X0) (q1 := q1) (v := v) (q2 := q2) (u := u) (q3 := q3) h3 h4
  have := h.1 _ _ _ _ p1 e1 (by rw [p2, e2, he])
  rw [← pos_num i h2 h1, ← pos_num j h4 h3, this]
theorem w_A {A : Nat → Prop} (h : va_D A (wsA X0 q1 v q2 u q3)) {i : Nat} (h1 : 1 ≤ i) (h2 : i < 126) : A ((XA X0 q1 v q2 u q3).2.2 i) := by
  obtain ⟨p, p1, p2⟩ := w_pos (X0 := X0) (q1 := q1) (v := v) (q2 := q2) (u := u) (q3 := q3) h1 h2
  rw [← p2]; exact h.2 _ _ p1
theorem xa_hi {i : Nat} (h : 126 ≤ i) : (XA X0 q1 v q2 u q3).2.2 i = X0.2.2 i := if_neg (Nat.not_lt.mpr h)
theorem w_STAT {A : Nat → Prop} {U : State} (h : STAT X0 A U H) : STAT (XA X0 q1 v q2 u q3) A U H := by
  have e3 : ∀ i, (XA X0 q1 v q2 u q3).2.2 (300 + i) = X0.2.2 (300 + i) := fun i => xa_hi (by omega)
  have e4 : ∀ i, (XA X0 q1 v q2 u q3).2.2 (400 + i) = X0.2.2 (400 + i) := fun i => xa_hi (by omega)
  have e6 : ∀ i, (XA X0 q1 v q2 u q3).2.2 (600 + i) = X0.2.2 (600 + i) := fun i => xa_hi (by omega)
  have e9 : (XA X0 q1 v q2 u q3).2.2 299 = X0.2.2 299 := xa_hi (by omega)
  unfold STAT STRS STR1
  simp only [e3, e4, e6, e9]
  exact h
end WB

