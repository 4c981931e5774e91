/-! the first world: what lies where behind the constructors (printed by tools/gen_ws.py) -/
def i0c (i b : Nat) : Int32 := if i = 1 ∧ b = 2 then -1 else if kd i = 4 ∧ b = 6 then 2 else if kd i = 4 ∧ b = 8 then 1 else if kd i = 2 ∧ b = 6 then -1 else if kd i = 7 ∧ b = 8 then -1 else 0
def r0c (i b : Nat) : Nat := if i = 3 then (if b < 12 then 12 + 4 * b else 0) else if i = 1 ∧ b = 3 then 4 else if i = 1 ∧ b = 4 then 8 else if i = 1 ∧ b = 5 then 64 else if i = 1 ∧ b = 6 then 70 else if kd i = 7 ∧ b = 5 then 330 else 0
def M0c : Mm := (i0c, fun _ _ => 0, r0c)
def i0r (i b : Nat) : Int32 := if i = 109 ∧ b = 12 then -1 else if i = 110 ∧ b = 1 then -1 else if i = 110 ∧ b = 5 then 2 else if i = 110 ∧ b = 9 then 1 else 0
def M0r : Mm := (i0r, fun _ _ => 0, fun _ _ => 0)
def posL : List Nat := [0, 0, 2, 1, 3, 4, 5, 6, 7, 8, 9, 10, 59, 60, 61, 62, 63, 64, 65, 66, 67, 68, 69, 70, 71, 72, 73, 74, 75, 76, 77, 78, 79, 80, 81, 82, 83, 84, 85, 86, 87, 88, 89, 90, 91, 92, 93, 94, 95, 96, 97, 98, 99, 100, 101, 102, 103, 104, 105, 106, 23, 24, 25, 26, 11, 12, 13, 14, 15, 16, 17, 18, 19, 20, 21, 22, 27, 28, 29, 30, 31, 32, 33, 34, 35, 36, 37, 38, 39, 40, 41, 42, 43, 44, 45, 46, 47, 48, 49, 50, 51, 52, 53, 58, 54, 55, 56, 57, 124, 107, 108, 109, 110, 111, 112, 113, 114, 115, 116, 117, 118, 119, 120, 121, 122, 123]
def numL : List Nat := [1, 3, 2, 4, 5, 6, 7, 8, 9, 10, 11, 64, 65, 66, 67, 68, 69, 70, 71, 72, 73, 74, 75, 60, 61, 62, 63, 76, 77, 78, 79, 80, 81, 82, 83, 84, 85, 86, 87, 88, 89, 90, 91, 92, 93, 94, 95, 96, 97, 98, 99, 100, 101, 102, 104, 105, 106, 107, 103, 12, 13, 14, 15, 16, 17, 18, 19, 20, 21, 22, 23, 24, 25, 26, 27, 28, 29, 30, 31, 32, 33, 34, 35, 36, 37, 38, 39, 40, 41, 42, 43, 44, 45, 46, 47, 48, 49, 50, 51, 52, 53, 54, 55, 56, 57, 58, 59, 109, 110, 111, 112, 113, 114, 115, 116, 117, 118, 119, 120, 121, 122, 123, 124, 125, 108]
theorem pos_num : ∀ i, i < 126 → 1 ≤ i → numL.getD (posL.getD i 0) 0 = i := by decide +kernel
theorem pos_lt : ∀ i, i < 126 → posL.getD i 0 < 125 := by decide +kernel
theorem cl_mus {X : Cx} {n : Nat} (h : kd n = 4) : cel X M0c n = .inr (4, [.ref (X.2.2 (n + 1)), .ref (X.2.2 (n + 2)), .ref (X.2.2 (n + 3)), .int 0, .int 0, .int 0, .int 2, .int 0, .int 1, .int 0]) := by
  have h1 : ¬ n = 1 := fun e => by subst e; exact absurd h (by decide)
  have h3 : ¬ n = 3 := fun e => by subst e; exact absurd h (by decide)
  rw [cel_o h (by decide)]
  simp [flds, slv, ty, nf, fts, List.range, List.range.loop, M0c, i0c, r0c, h, h1, h3, va_rf, rfo]
theorem cl_law {X : Cx} {n : Nat} (h : kd n = 2) : cel X M0c n = .inr (2, [.ref (X.2.2 (n + 1)), .ref (X.2.2 (n + 2)), .ref (X.2.2 (n + 3)), .ref (X.2.2 (n + 4)), .ref (X.2.2 (n + 5)), .int 0, .int (-1)]) := by
  have h1 : ¬ n = 1 := fun e => by subst e; exact absurd h (by decide)
  have h3 : ¬ n = 3 := fun e => by subst e; exact absurd h (by decide)
  rw [cel_o h (by decide)]
  simp [flds, slv, ty, nf, fts, List.range, List.range.loop, M0c, i0c, r0c, h, h1, h3, va_rf, rfo]
theorem cl_pass {X : Cx} {n : Nat} (h : kd n = 6) : cel X M0c n = .inr (6, [.ref (X.2.2 (n + 1)), .ref (X.2.2 (n + 2)), .ref (X.2.2 (n + 3)), .ref (X.2.2 (n + 4))]) := by
  have h1 : ¬ n = 1 := fun e => by subst e; exact absurd h (by decide)
  have h3 : ¬ n = 3 := fun e => by subst e; exact absurd h (by decide)
  rw [cel_o h (by decide)]
  simp [flds, slv, ty, nf, fts, List.range, List.range.loop, M0c, i0c, r0c, h, h1, h3, va_rf, rfo]
theorem cl_pair {X : Cx} {n : Nat} (h : kd n = 5) : cel X M0c n = .inr (5, [.ref (X.2.2 (n + 1)), .ref (X.2.2 (n + 2)), .int 0, .int 0, .int 0]) := by
  have h1 : ¬ n = 1 := fun e => by subst e; exact absurd h (by decide)
  have h3 : ¬ n = 3 := fun e => by subst e; exact absurd h (by decide)
  rw [cel_o h (by decide)]
  simp [flds, slv, ty, nf, fts, List.range, List.range.loop, M0c, i0c, r0c, h, h1, h3, va_rf, rfo]
theorem cl_dear {X : Cx} {n : Nat} (h : kd n = 0) : cel X M0c n = .inr (0, [.ref (X.2.2 (n + 1)), .ref (X.2.2 (n + 2)), .ref (X.2.2 (n + 3)), .ref (X.2.2 (n + 4)), .ref (X.2.2 (n + 5)), .ref (X.2.2 (n + 6)), .int 0, .int 0]) := by
  have h1 : ¬ n = 1 := fun e => by subst e; exact absurd h (by decide)
  have h3 : ¬ n = 3 := fun e => by subst e; exact absurd h (by decide)
  rw [cel_o h (by decide)]
  simp [flds, slv, ty, nf, fts, List.range, List.range.loop, M0c, i0c, r0c, h, h1, h3, va_rf, rfo]
theorem cl_hr {X : Cx} {n : Nat} (h : kd n = 1) : cel X M0c n = .inr (1, [.ref (X.2.2 (n + 1)), .int 0]) := by
  have h1 : ¬ n = 1 := fun e => by subst e; exact absurd h (by decide)
  have h3 : ¬ n = 3 := fun e => by subst e; exact absurd h (by decide)
  rw [cel_o h (by decide)]
  simp [flds, slv, ty, nf, fts, List.range, List.range.loop, M0c, i0c, r0c, h, h1, h3, va_rf, rfo]
theorem cl_lr {X : Cx} {n : Nat} (h : kd n = 3) : cel X M0c n = .inr (3, [.ref (X.2.2 (n + 2)), .ref (X.2.2 (n + 1)), .int 0, .int 0]) := by
  have h1 : ¬ n = 1 := fun e => by subst e; exact absurd h (by decide)
  have h3 : ¬ n = 3 := fun e => by subst e; exact absurd h (by decide)
  rw [cel_o h (by decide)]
  simp [flds, slv, ty, nf, fts, List.range, List.range.loop, M0c, i0c, r0c, h, h1, h3, va_rf, rfo]
theorem cl_rd {X : Cx} {n : Nat} (h : kd n = 7) : cel X M0c n = .inr (7, [.ref (X.2.2 (n + 1)), .ref (X.2.2 (n + 2)), .ref (X.2.2 (n + 3)), .int 0, .int 0, .ref (X.2.2 330), .int 0, .int 0, .int (-1)]) := by
  have h1 : ¬ n = 1 := fun e => by subst e; exact absurd h (by decide)
  have h3 : ¬ n = 3 := fun e => by subst e; exact absurd h (by decide)
  rw [cel_o h (by decide)]
  simp [flds, slv, ty, nf, fts, List.range, List.range.loop, M0c, i0c, r0c, h, h1, h3, va_rf, rfo]
theorem cl_ia {X : Cx} {n : Nat} (h : kd n = 30) : cel X M0c n = .inl (X.2.1 0, ln n, .inl (fun _ => 0)) := by
  have h1 : ¬ n = 1 := fun e => by subst e; exact absurd h (by decide)
  rw [cel_i h]
  have e : M0c.1 n = fun _ => 0 := by funext b; simp [M0c, i0c, h, h1]
  rw [e]
theorem cl_ja {X : Cx} {n : Nat} (h : kd n = 31) : cel X M0c n = .inl (X.2.1 1, ln n, .inr (.inl (fun _ => 0))) := by
  rw [cel_j h]; rfl
theorem cl_wa {X : Cx} {n : Nat} (h : kd n = 33) : cel X M0c n = .inl (X.2.1 3, ln n, .inr (.inr (.inr (.inr (fun _ => none))))) := by
  have h1 : ¬ n = 1 := fun e => by subst e; exact absurd h (by decide)
  have h3 : ¬ n = 3 := fun e => by subst e; exact absurd h (by decide)
  rw [cel_w h]
  have e : (fun j => rfo X (M0c.2.2 n j)) = fun _ => none := by funext b; simp [M0c, r0c, h, h1, h3, rfo]
  rw [e]
theorem cr_ia {X : Cx} {n : Nat} (h : kd n = 30) (h2 : ¬ n = 110) : cel X M0r n = .inl (X.2.1 0, ln n, .inl (fun _ => 0)) := by
  have h1 : ¬ n = 109 := fun e => by subst e; exact absurd h (by decide)
  rw [cel_i h]
  have e : M0r.1 n = fun _ => 0 := by funext b; simp [M0r, i0r, h1, h2]
  rw [e]
theorem cr_za {X : Cx} {n : Nat} (h : kd n = 41) : cel X M0r n = .inl (X.2.1 4, ln n, .inl (fun _ => 0)) := by
  have h1 : ¬ n = 109 := fun e => by subst e; exact absurd h (by decide)
  have h2 : ¬ n = 110 := fun e => by subst e; exact absurd h (by decide)
  rw [cel_z h]
  have e : M0r.1 n = fun _ => 0 := by funext b; simp [M0r, i0r, h1, h2]
  rw [e]
theorem cl_1 {X : Cx} : cel X M0c 1 = .inr (8, [.ref (X.2.2 2), .int 0, .int (-1), .ref (X.2.2 4), .ref (X.2.2 8), .ref (X.2.2 64), .ref (X.2.2 70), .ref (X.2.2 60), .ref (X.2.2 76), .int 0, .ref (X.2.2 3), .int 0, .ref (X.2.2 82), .ref (X.2.2 87), .ref (X.2.2 90), .ref (X.2.2 97), .ref (X.2.2 102)]) := by
  rw [cel_o (k := 8) (by decide) (by decide)]
  simp [flds, slv, ty, nf, fts, List.range, List.range.loop, M0c, i0c, r0c, va_rf, rfo, kd, kds]
theorem cl_3 {X : Cx} : cel X M0c 3 = .inl (X.2.1 2, 12, .inr (.inr (.inr (.inr (fun j => if j < 12 then some (X.2.2 (12 + 4 * j)) else none))))) := by
  rw [cel_m (by decide)]
  have e : (fun j => rfo X (M0c.2.2 3 j)) = fun j => if j < 12 then some (X.2.2 (12 + 4 * j)) else none := by
    funext j
    by_cases h : j < 12
    · simp [M0c, r0c, h, rfo]
    · simp [M0c, r0c, h, rfo]
  rw [e]; rfl
theorem up_12 {F : Nat → Nat} : va_up (va_up (va_up (va_up (va_up (va_up (va_up (va_up (va_up (va_up (va_up (va_up (fun _ => none) 0 (some (F 0))) 1 (some (F 1))) 2 (some (F 2))) 3 (some (F 3))) 4 (some (F 4))) 5 (some (F 5))) 6 (some (F 6))) 7 (some (F 7))) 8 (some (F 8))) 9 (some (F 9))) 10 (some (F 10))) 11 (some (F 11)) = fun j => if j < 12 then some (F j) else none := by
  funext j
  by_cases h : j < 12
  · rcases (show j = 0 ∨ j = 1 ∨ j = 2 ∨ j = 3 ∨ j = 4 ∨ j = 5 ∨ j = 6 ∨ j = 7 ∨ j = 8 ∨ j = 9 ∨ j = 10 ∨ j = 11 by omega) with rfl | rfl | rfl | rfl | rfl | rfl | rfl | rfl | rfl | rfl | rfl | rfl <;> simp [va_up]
  · have hn : ∀ k, k < 12 → ¬ j = k := fun k hk he => by omega
    simp [va_up, h, hn]
theorem P_l {D : va_G} {cl : List vw_C} {A B : va_W} {H : Heap} (h : va_P D cl (A ++ B) H) : va_P D cl A H := fun k q hk => h k q (by rw [List.getElem?_append_left (List.getElem?_eq_some_iff.mp hk).1]; exact hk)
theorem P_r {D : va_G} {cl : List vw_C} {A B : va_W} {H : Heap} (h : va_P D cl (A ++ B) H) : va_P D cl B H := fun k q hk => h (A.length + k) q (by rw [List.getElem?_append_right (Nat.le_add_right _ _), Nat.add_sub_cancel_left]; exact hk)
theorem P_t {D : va_G} {cl : List vw_C} {x : Nat × va_E} {T : va_W} {H : Heap} (h : va_P D cl (x :: T) H) : va_P D cl T H := fun k q hk => h (k + 1) q (by rw [List.getElem?_cons_succ]; exact hk)
abbrev V9 : Type := (Nat × Nat) × (Nat → Nat × (Nat → Nat))
def wsA (X0 : Cx) (q1 : Nat) (v : V9) (q2 : Nat) (u : Nat → Nat) (q3 : Nat) : va_W := (([] ++ Wc_X9_init X0 q1 v) ++ Wc_X10_init X0 q2 u) ++ [(q3, .inl (X0.2.1 1, 1, .inr (.inl (fun _ => 0))))]
def adW (q1 : Nat) (v : V9) (q2 : Nat) (u : Nat → Nat) (q3 : Nat) : List Nat := [q1, v.1.2, v.1.1, (v.2 0).1, (v.2 0).2 0, (v.2 0).2 1, (v.2 0).2 2, (v.2 1).1, (v.2 1).2 0, (v.2 1).2 1, (v.2 1).2 2, (v.2 2).1, (v.2 2).2 0, (v.2 2).2 1, (v.2 2).2 2, (v.2 2).2 3, (v.2 2).2 4, (v.2 3).1, (v.2 3).2 0, (v.2 3).2 1, (v.2 3).2 2, (v.2 3).2 3, (v.2 3).2 4, (v.2 4).1, (v.2 4).2 0, (v.2 4).2 1, (v.2 4).2 2, (v.2 5).1, (v.2 5).2 0, (v.2 5).2 1, (v.2 5).2 2, (v.2 5).2 3, (v.2 5).2 4, (v.2 6).1, (v.2 6).2 0, (v.2 6).2 1, (v.2 6).2 2, (v.2 6).2 3, (v.2 7).1, (v.2 7).2 0, (v.2 7).2 1, (v.2 8).1, (v.2 8).2 0, (v.2 8).2 1, (v.2 8).2 2, (v.2 8).2 3, (v.2 8).2 4, (v.2 8).2 5, (v.2 9).1, (v.2 9).2 0, (v.2 9).2 1, (v.2 9).2 2, (v.2 9).2 3, (v.2 10).1, (v.2 10).2 0, (v.2 10).2 1, (v.2 10).2 2, (v.2 10).2 3, (v.2 10).2 4, (v.2 11).1, (v.2 11).2 0, (v.2 11).2 1, (v.2 11).2 2, (v.2 12).1, (v.2 12).2 0, (v.2 12).2 1, (v.2 12).2 2, (v.2 13).1, (v.2 13).2 0, (v.2 13).2 1, (v.2 13).2 2, (v.2 14).1, (v.2 14).2 0, (v.2 14).2 1, (v.2 14).2 2, (v.2 15).1, (v.2 15).2 0, (v.2 15).2 1, (v.2 15).2 2, (v.2 16).1, (v.2 16).2 0, (v.2 16).2 1, (v.2 16).2 2, (v.2 17).1, (v.2 17).2 0, (v.2 17).2 1, (v.2 17).2 2, (v.2 18).1, (v.2 18).2 0, (v.2 18).2 1, (v.2 18).2 2, (v.2 19).1, (v.2 19).2 0, (v.2 19).2 1, (v.2 19).2 2, (v.2 20).1, (v.2 20).2 0, (v.2 20).2 1, (v.2 20).2 2, (v.2 21).1, (v.2 21).2 0, (v.2 21).2 1, (v.2 21).2 2, (v.2 22).1, (v.2 22).2 0, (v.2 22).2 1, (v.2 22).2 2, q2, u 0, u 1, u 2, u 3, u 4, u 5, u 6, u 7, u 8, u 9, u 10, u 11, u 12, u 13, u 14, u 15, q3]
def XA (X0 : Cx) (q1 : Nat) (v : V9) (q2 : Nat) (u : Nat → Nat) (q3 : Nat) : Cx := (X0.1, X0.2.1, fun i => if i < 126 then (adW q1 v q2 u q3).getD (posL.getD i 0) 0 else X0.2.2 i)
section WAT
variable {X0 : Cx} {q1 : Nat} {v : V9} {q2 : Nat} {u : Nat → Nat} {q3 : Nat} {H : Heap}
set_option maxRecDepth 100000 in
set_option maxHeartbeats 4000000 in
theorem w_ad : (wsA X0 q1 v q2 u q3).map (·.1) = adW q1 v q2 u q3 := by
  simp only [wsA, Wc_X0_init, Wc_X1_init, Wc_X2_init, Wc_X3_init, Wc_X4_init, Wc_X5_init, Wc_X6_init, Wc_X9_init, Wc_X10_init, List.map_append, List.map_cons, List.map_nil, List.nil_append, List.cons_append, List.append_assoc, adW]
theorem xa_1 : (XA X0 q1 v q2 u q3).2.2 1 = q1 := rfl
theorem xa_2 : (XA X0 q1 v q2 u q3).2.2 2 = v.1.1 := rfl
theorem xa_3 : (XA X0 q1 v q2 u q3).2.2 3 = v.1.2 := rfl
theorem xa_4 : (XA X0 q1 v q2 u q3).2.2 4 = (v.2 0).1 := rfl
theorem xa_5 : (XA X0 q1 v q2 u q3).2.2 5 = (v.2 0).2 0 := rfl
theorem xa_6 : (XA X0 q1 v q2 u q3).2.2 6 = (v.2 0).2 1 := rfl
theorem xa_7 : (XA X0 q1 v q2 u q3).2.2 7 = (v.2 0).2 2 := rfl
theorem xa_8 : (XA X0 q1 v q2 u q3).2.2 8 = (v.2 1).1 := rfl
theorem xa_9 : (XA X0 q1 v q2 u q3).2.2 9 = (v.2 1).2 0 := rfl
theorem xa_10 : (XA X0 q1 v q2 u q3).2.2 10 = (v.2 1).2 1 := rfl
theorem xa_11 : (XA X0 q1 v q2 u q3).2.2 11 = (v.2 1).2 2 := rfl
theorem xa_12 : (XA X0 q1 v q2 u q3).2.2 12 = (v.2 11).1 := rfl
theorem xa_13 : (XA X0 q1 v q2 u q3).2.2 13 = (v.2 11).2 0 := rfl
theorem xa_14 : (XA X0 q1 v q2 u q3).2.2 14 = (v.2 11).2 1 := rfl
theorem xa_15 : (XA X0 q1 v q2 u q3).2.2 15 = (v.2 11).2 2 := rfl
theorem xa_16 : (XA X0 q1 v q2 u q3).2.2 16 = (v.2 12).1 := rfl
theorem xa_17 : (XA X0 q1 v q2 u q3).2.2 17 = (v.2 12).2 0 := rfl
theorem xa_18 : (XA X0 q1 v q2 u q3).2.2 18 = (v.2 12).2 1 := rfl
theorem xa_19 : (XA X0 q1 v q2 u q3).2.2 19 = (v.2 12).2 2 := rfl
theorem xa_20 : (XA X0 q1 v q2 u q3).2.2 20 = (v.2 13).1 := rfl
theorem xa_21 : (XA X0 q1 v q2 u q3).2.2 21 = (v.2 13).2 0 := rfl
theorem xa_22 : (XA X0 q1 v q2 u q3).2.2 22 = (v.2 13).2 1 := rfl
theorem xa_23 : (XA X0 q1 v q2 u q3).2.2 23 = (v.2 13).2 2 := rfl
theorem xa_24 : (XA X0 q1 v q2 u q3).2.2 24 = (v.2 14).1 := rfl
theorem xa_25 : (XA X0 q1 v q2 u q3).2.2 25 = (v.2 14).2 0 := rfl
theorem xa_26 : (XA X0 q1 v q2 u q3).2.2 26 = (v.2 14).2 1 := rfl
theorem xa_27 : (XA X0 q1 v q2 u q3).2.2 27 = (v.2 14).2 2 := rfl
theorem xa_28 : (XA X0 q1 v q2 u q3).2.2 28 = (v.2 15).1 := rfl
theorem xa_29 : (XA X0 q1 v q2 u q3).2.2 29 = (v.2 15).2 0 := rfl
theorem xa_30 : (XA X0 q1 v q2 u q3).2.2 30 = (v.2 15).2 1 := rfl
theorem xa_31 : (XA X0 q1 v q2 u q3).2.2 31 = (v.2 15).2 2 := rfl
theorem xa_32 : (XA X0 q1 v q2 u q3).2.2 32 = (v.2 16).1 := rfl
theorem xa_33 : (XA X0 q1 v q2 u q3).2.2 33 = (v.2 16).2 0 := rfl
theorem xa_34 : (XA X0 q1 v q2 u q3).2.2 34 = (v.2 16).2 1 := rfl
theorem xa_35 : (XA X0 q1 v q2 u q3).2.2 35 = (v.2 16).2 2 := rfl
theorem xa_36 : (XA X0 q1 v q2 u q3).2.2 36 = (v.2 17).1 := rfl
theorem xa_37 : (XA X0 q1 v q2 u q3).2.2 37 = (v.2 17).2 0 := rfl
theorem xa_38 : (XA X0 q1 v q2 u q3).2.2 38 = (v.2 17).2 1 := rfl
theorem xa_39 : (XA X0 q1 v q2 u q3).2.2 39 = (v.2 17).2 2 := rfl
theorem xa_40 : (XA X0 q1 v q2 u q3).2.2 40 = (v.2 18).1 := rfl
theorem xa_41 : (XA X0 q1 v q2 u q3).2.2 41 = (v.2 18).2 0 := rfl
theorem xa_42 : (XA X0 q1 v q2 u q3).2.2 42 = (v.2 18).2 1 := rfl
theorem xa_43 : (XA X0 q1 v q2 u q3).2.2 43 = (v.2 18).2 2 := rfl
theorem xa_44 : (XA X0 q1 v q2 u q3).2.2 44 = (v.2 19).1 := rfl
theorem xa_45 : (XA X0 q1 v q2 u q3).2.2 45 = (v.2 19).2 0 := rfl
theorem xa_46 : (XA X0 q1 v q2 u q3).2.2 46 = (v.2 19).2 1 := rfl
theorem xa_47 : (XA X0 q1 v q2 u q3).2.2 47 = (v.2 19).2 2 := rfl
theorem xa_48 : (XA X0 q1 v q2 u q3).2.2 48 = (v.2 20).1 := rfl
theorem xa_49 : (XA X0 q1 v q2 u q3).2.2 49 = (v.2 20).2 0 := rfl
theorem xa_50 : (XA X0 q1 v q2 u q3).2.2 50 = (v.2 20).2 1 := rfl
theorem xa_51 : (XA X0 q1 v q2 u q3).2.2 51 = (v.2 20).2 2 := rfl
theorem xa_52 : (XA X0 q1 v q2 u q3).2.2 52 = (v.2 21).1 := rfl
theorem xa_53 : (XA X0 q1 v q2 u q3).2.2 53 = (v.2 21).2 0 := rfl
theorem xa_54 : (XA X0 q1 v q2 u q3).2.2 54 = (v.2 21).2 1 := rfl
theorem xa_55 : (XA X0 q1 v q2 u q3).2.2 55 = (v.2 21).2 2 := rfl
theorem xa_56 : (XA X0 q1 v q2 u q3).2.2 56 = (v.2 22).1 := rfl
theorem xa_57 : (XA X0 q1 v q2 u q3).2.2 57 = (v.2 22).2 0 := rfl
theorem xa_58 : (XA X0 q1 v q2 u q3).2.2 58 = (v.2 22).2 1 := rfl
theorem xa_59 : (XA X0 q1 v q2 u q3).2.2 59 = (v.2 22).2 2 := rfl
theorem xa_60 : (XA X0 q1 v q2 u q3).2.2 60 = (v.2 4).1 := rfl
theorem xa_61 : (XA X0 q1 v q2 u q3).2.2 61 = (v.2 4).2 0 := rfl
theorem xa_62 : (XA X0 q1 v q2 u q3).2.2 62 = (v.2 4).2 1 := rfl
theorem xa_63 : (XA X0 q1 v q2 u q3).2.2 63 = (v.2 4).2 2 := rfl
theorem xa_64 : (XA X0 q1 v q2 u q3).2.2 64 = (v.2 2).1 := rfl
theorem xa_65 : (XA X0 q1 v q2 u q3).2.2 65 = (v.2 2).2 0 := rfl
theorem xa_66 : (XA X0 q1 v q2 u q3).2.2 66 = (v.2 2).2 1 := rfl
theorem xa_67 : (XA X0 q1 v q2 u q3).2.2 67 = (v.2 2).2 2 := rfl
theorem xa_68 : (XA X0 q1 v q2 u q3).2.2 68 = (v.2 2).2 3 := rfl
theorem xa_69 : (XA X0 q1 v q2 u q3).2.2 69 = (v.2 2).2 4 := rfl
theorem xa_70 : (XA X0 q1 v q2 u q3).2.2 70 = (v.2 3).1 := rfl
theorem xa_71 : (XA X0 q1 v q2 u q3).2.2 71 = (v.2 3).2 0 := rfl
theorem xa_72 : (XA X0 q1 v q2 u q3).2.2 72 = (v.2 3).2 1 := rfl
theorem xa_73 : (XA X0 q1 v q2 u q3).2.2 73 = (v.2 3).2 2 := rfl
theorem xa_74 : (XA X0 q1 v q2 u q3).2.2 74 = (v.2 3).2 3 := rfl
theorem xa_75 : (XA X0 q1 v q2 u q3).2.2 75 = (v.2 3).2 4 := rfl
theorem xa_76 : (XA X0 q1 v q2 u q3).2.2 76 = (v.2 5).1 := rfl
theorem xa_77 : (XA X0 q1 v q2 u q3).2.2 77 = (v.2 5).2 0 := rfl
theorem xa_78 : (XA X0 q1 v q2 u q3).2.2 78 = (v.2 5).2 1 := rfl
theorem xa_79 : (XA X0 q1 v q2 u q3).2.2 79 = (v.2 5).2 2 := rfl
theorem xa_80 : (XA X0 q1 v q2 u q3).2.2 80 = (v.2 5).2 3 := rfl
theorem xa_81 : (XA X0 q1 v q2 u q3).2.2 81 = (v.2 5).2 4 := rfl
theorem xa_82 : (XA X0 q1 v q2 u q3).2.2 82 = (v.2 6).1 := rfl
theorem xa_83 : (XA X0 q1 v q2 u q3).2.2 83 = (v.2 6).2 0 := rfl
theorem xa_84 : (XA X0 q1 v q2 u q3).2.2 84 = (v.2 6).2 1 := rfl
theorem xa_85 : (XA X0 q1 v q2 u q3).2.2 85 = (v.2 6).2 2 := rfl
theorem xa_86 : (XA X0 q1 v q2 u q3).2.2 86 = (v.2 6).2 3 := rfl
theorem xa_87 : (XA X0 q1 v q2 u q3).2.2 87 = (v.2 7).1 := rfl
theorem xa_88 : (XA X0 q1 v q2 u q3).2.2 88 = (v.2 7).2 0 := rfl
theorem xa_89 : (XA X0 q1 v q2 u q3).2.2 89 = (v.2 7).2 1 := rfl
theorem xa_90 : (XA X0 q1 v q2 u q3).2.2 90 = (v.2 8).1 := rfl
theorem xa_91 : (XA X0 q1 v q2 u q3).2.2 91 = (v.2 8).2 0 := rfl
theorem xa_92 : (XA X0 q1 v q2 u q3).2.2 92 = (v.2 8).2 1 := rfl
theorem xa_93 : (XA X0 q1 v q2 u q3).2.2 93 = (v.2 8).2 2 := rfl
theorem xa_94 : (XA X0 q1 v q2 u q3).2.2 94 = (v.2 8).2 3 := rfl
theorem xa_95 : (XA X0 q1 v q2 u q3).2.2 95 = (v.2 8).2 4 := rfl
theorem xa_96 : (XA X0 q1 v q2 u q3).2.2 96 = (v.2 8).2 5 := rfl
theorem xa_97 : (XA X0 q1 v q2 u q3).2.2 97 = (v.2 9).1 := rfl
theorem xa_98 : (XA X0 q1 v q2 u q3).2.2 98 = (v.2 9).2 0 := rfl
theorem xa_99 : (XA X0 q1 v q2 u q3).2.2 99 = (v.2 9).2 1 := rfl
theorem xa_100 : (XA X0 q1 v q2 u q3).2.2 100 = (v.2 9).2 2 := rfl
theorem xa_101 : (XA X0 q1 v q2 u q3).2.2 101 = (v.2 9).2 3 := rfl
theorem xa_102 : (XA X0 q1 v q2 u q3).2.2 102 = (v.2 10).1 := rfl
theorem xa_103 : (XA X0 q1 v q2 u q3).2.2 103 = (v.2 10).2 4 := rfl
theorem xa_104 : (XA X0 q1 v q2 u q3).2.2 104 = (v.2 10).2 0 := rfl
theorem xa_105 : (XA X0 q1 v q2 u q3).2.2 105 = (v.2 10).2 1 := rfl
theorem xa_106 : (XA X0 q1 v q2 u q3).2.2 106 = (v.2 10).2 2 := rfl
theorem xa_107 : (XA X0 q1 v q2 u q3).2.2 107 = (v.2 10).2 3 := rfl
theorem xa_109 : (XA X0 q1 v q2 u q3).2.2 109 = q2 := rfl
theorem xa_110 : (XA X0 q1 v q2 u q3).2.2 110 = u 0 := rfl
theorem xa_111 : (XA X0 q1 v q2 u q3).2.2 111 = u 1 := rfl
theorem xa_112 : (XA X0 q1 v q2 u q3).2.2 112 = u 2 := rfl
theorem xa_113 : (XA X0 q1 v q2 u q3).2.2 113 = u 3 := rfl
theorem xa_114 : (XA X0 q1 v q2 u q3).2.2 114 = u 4 := rfl
theorem xa_115 : (XA X0 q1 v q2 u q3).2.2 115 = u 5 := rfl
theorem xa_116 : (XA X0 q1 v q2 u q3).2.2 116 = u 6 := rfl
theorem xa_117 : (XA X0 q1 v q2 u q3).2.2 117 = u 7 := rfl
theorem xa_118 : (XA X0 q1 v q2 u q3).2.2 118 = u 8 := rfl
theorem xa_119 : (XA X0 q1 v q2 u q3).2.2 119 = u 9 := rfl
theorem xa_120 : (XA X0 q1 v q2 u q3).2.2 120 = u 10 := rfl
theorem xa_121 : (XA X0 q1 v q2 u q3).2.2 121 = u 11 := rfl
theorem xa_122 : (XA X0 q1 v q2 u q3).2.2 122 = u 12 := rfl
theorem xa_123 : (XA X0 q1 v q2 u q3).2.2 123 = u 13 := rfl
theorem xa_124 : (XA X0 q1 v q2 u q3).2.2 124 = u 14 := rfl
theorem xa_125 : (XA X0 q1 v q2 u q3).2.2 125 = u 15 := rfl
theorem xa_108 : (XA X0 q1 v q2 u q3).2.2 108 = q3 := rfl
theorem xa_330 : (XA X0 q1 v q2 u q3).2.2 330 = X0.2.2 330 := rfl
set_option maxRecDepth 100000 in
set_option maxHeartbeats 2000000 in
theorem wb_0 (h : va_P X0.1 vwCl (Wc_X4_init X0 (v.2 0).1 (v.2 0).2) H) : va_at X0.1 vwCl ((XA X0 q1 v q2 u q3).2.2 4, cel (XA X0 q1 v q2 u q3) M0c 4) H ∧ va_at X0.1 vwCl ((XA X0 q1 v q2 u q3).2.2 5, cel (XA X0 q1 v q2 u q3) M0c 5) H ∧ va_at X0.1 vwCl ((XA X0 q1 v q2 u q3).2.2 6, cel (XA X0 q1 v q2 u q3) M0c 6) H ∧ va_at X0.1 vwCl ((XA X0 q1 v q2 u q3).2.2 7, cel (XA X0 q1 v q2 u q3) M0c 7) H := ⟨by rw [cl_mus (n := 4) (by decide)]; exact h 0 _ rfl, by rw [cl_ia (n := 5) (by decide)]; exact h 1 _ rfl, by rw [cl_ia (n := 6) (by decide)]; exact h 2 _ rfl, by rw [cl_ia (n := 7) (by decide)]; exact h 3 _ rfl⟩
set_option maxRecDepth 100000 in
set_option maxHeartbeats 2000000 in
theorem wb_1 (h : va_P X0.1 vwCl (Wc_X4_init X0 (v.2 1).1 (v.2 1).2) H) : va_at X0.1 vwCl ((XA X0 q1 v q2 u q3).2.2 8, cel (XA X0 q1 v q2 u q3) M0c 8) H ∧ va_at X0.1 vwCl ((XA X0 q1 v q2 u q3).2.2 9, cel (XA X0 q1 v q2 u q3) M0c 9) H ∧ va_at X0.1 vwCl ((XA X0 q1 v q2 u q3).2.2 10, cel (XA X0 q1 v q2 u q3) M0c 10) H ∧ va_at X0.1 vwCl ((XA X0 q1 v q2 u q3).2.2 11, cel (XA X0 q1 v q2 u q3) M0c 11) H := ⟨by rw [cl_mus (n := 8) (by decide)]; exact h 0 _ rfl, by rw [cl_ia (n := 9) (by decide)]; exact h 1 _ rfl, by rw [cl_ia (n := 10) (by decide)]; exact h 2 _ rfl, by rw [cl_ia (n := 11) (by decide)]; exact h 3 _ rfl⟩
set_option maxRecDepth 100000 in
set_option maxHeartbeats 2000000 in
theorem wb_2 (h : va_P X0.1 vwCl (Wc_X2_init X0 (v.2 2).1 (v.2 2).2) H) : va_at X0.1 vwCl ((XA X0 q1 v q2 u q3).2.2 64, cel (XA X0 q1 v q2 u q3) M0c 64) H ∧ va_at X0.1 vwCl ((XA X0 q1 v q2 u q3).2.2 65, cel (XA X0 q1 v q2 u q3) M0c 65) H ∧ va_at X0.1 vwCl ((XA X0 q1 v q2 u q3).2.2 66, cel (XA X0 q1 v q2 u q3) M0c 66) H ∧ va_at X0.1 vwCl ((XA X0 q1 v q2 u q3).2.2 67, cel (XA X0 q1 v q2 u q3) M0c 67) H ∧ va_at X0.1 vwCl ((XA X0 q1 v q2 u q3).2.2 68, cel (XA X0 q1 v q2 u q3) M0c 68) H ∧ va_at X0.1 vwCl ((XA X0 q1 v q2 u q3).2.2 69, cel (XA X0 q1 v q2 u q3) M0c 69) H := ⟨by rw [cl_law (n := 64) (by decide)]; exact h 0 _ rfl, by rw [cl_ia (n := 65) (by decide)]; exact h 1 _ rfl, by rw [cl_ia (n := 66) (by decide)]; exact h 2 _ rfl, by rw [cl_ia (n := 67) (by decide)]; exact h 3 _ rfl, by rw [cl_ia (n := 68) (by decide)]; exact h 4 _ rfl, by rw [cl_ia (n := 69) (by decide)]; exact h 5 _ rfl⟩
set_option maxRecDepth 100000 in
set_option maxHeartbeats 2000000 in
theorem wb_3 (h : va_P X0.1 vwCl (Wc_X2_init X0 (v.2 3).1 (v.2 3).2) H) : va_at X0.1 vwCl ((XA X0 q1 v q2 u q3).2.2 70, cel (XA X0 q1 v q2 u q3) M0c 70) H ∧ va_at X0.1 vwCl ((XA X0 q1 v q2 u q3).2.2 71, cel (XA X0 q1 v q2 u q3) M0c 71) H ∧ va_at X0.1 vwCl ((XA X0 q1 v q2 u q3).2.2 72, cel (XA X0 q1 v q2 u q3) M0c 72) H ∧ va_at X0.1 vwCl ((XA X0 q1 v q2 u q3).2.2 73, cel (XA X0 q1 v q2 u q3) M0c 73) H ∧ va_at X0.1 vwCl ((XA X0 q1 v q2 u q3).2.2 74, cel (XA X0 q1 v q2 u q3) M0c 74) H ∧ va_at X0.1 vwCl ((XA X0 q1 v q2 u q3).2.2 75, cel (XA X0 q1 v q2 u q3) M0c 75) H := ⟨by rw [cl_law (n := 70) (by decide)]; exact h 0 _ rfl, by rw [cl_ia (n := 71) (by decide)]; exact h 1 _ rfl, by rw [cl_ia (n := 72) (by decide)]; exact h 2 _ rfl, by rw [cl_ia (n := 73) (by decide)]; exact h 3 _ rfl, by rw [cl_ia (n := 74) (by decide)]; exact h 4 _ rfl, by rw [cl_ia (n := 75) (by decide)]; exact h 5 _ rfl⟩
set_option maxRecDepth 100000 in
set_option maxHeartbeats 2000000 in
theorem wb_4 (h : va_P X0.1 vwCl (Wc_X4_init X0 (v.2 4).1 (v.2 4).2) H) : va_at X0.1 vwCl ((XA X0 q1 v q2 u q3).2.2 60, cel (XA X0 q1 v q2 u q3) M0c 60) H ∧ va_at X0.1 vwCl ((XA X0 q1 v q2 u q3).2.2 61, cel (XA X0 q1 v q2 u q3) M0c 61) H ∧ va_at X0.1 vwCl ((XA X0 q1 v q2 u q3).2.2 62, cel (XA X0 q1 v q2 u q3) M0c 62) H ∧ va_at X0.1 vwCl ((XA X0 q1 v q2 u q3).2.2 63, cel (XA X0 q1 v q2 u q3) M0c 63) H := ⟨by rw [cl_mus (n := 60) (by decide)]; exact h 0 _ rfl, by rw [cl_ia (n := 61) (by decide)]; exact h 1 _ rfl, by rw [cl_ia (n := 62) (by decide)]; exact h 2 _ rfl, by rw [cl_ia (n := 63) (by decide)]; exact h 3 _ rfl⟩
set_option maxRecDepth 100000 in
set_option maxHeartbeats 2000000 in
theorem wb_5 (h : va_P X0.1 vwCl (Wc_X2_init X0 (v.2 5).1 (v.2 5).2) H) : va_at X0.1 vwCl ((XA X0 q1 v q2 u q3).2.2 76, cel (XA X0 q1 v q2 u q3) M0c 76) H ∧ va_at X0.1 vwCl ((XA X0 q1 v q2 u q3).2.2 77, cel (XA X0 q1 v q2 u q3) M0c 77) H ∧ va_at X0.1 vwCl ((XA X0 q1 v q2 u q3).2.2 78, cel (XA X0 q1 v q2 u q3) M0c 78) H ∧ va_at X0.1 vwCl ((XA X0 q1 v q2 u q3).2.2 79, cel (XA X0 q1 v q2 u q3) M0c 79) H ∧ va_at X0.1 vwCl ((XA X0 q1 v q2 u q3).2.2 80, cel (XA X0 q1 v q2 u q3) M0c 80) H ∧ va_at X0.1 vwCl ((XA X0 q1 v q2 u q3).2.2 81, cel (XA X0 q1 v q2 u q3) M0c 81) H := ⟨by rw [cl_law (n := 76) (by decide)]; exact h 0 _ rfl, by rw [cl_ia (n := 77) (by decide)]; exact h 1 _ rfl, by rw [cl_ia (n := 78) (by decide)]; exact h 2 _ rfl, by rw [cl_ia (n := 79) (by decide)]; exact h 3 _ rfl, by rw [cl_ia (n := 80) (by decide)]; exact h 4 _ rfl, by rw [cl_ia (n := 81) (by decide)]; exact h 5 _ rfl⟩
set_option maxRecDepth 100000 in
set_option maxHeartbeats 2000000 in
theorem wb_6 (h : va_P X0.1 vwCl (Wc_X6_init X0 (v.2 6).1 (v.2 6).2) H) : va_at X0.1 vwCl ((XA X0 q1 v q2 u q3).2.2 82, cel (XA X0 q1 v q2 u q3) M0c 82) H ∧ va_at X0.1 vwCl ((XA X0 q1 v q2 u q3).2.2 83, cel (XA X0 q1 v q2 u q3) M0c 83) H ∧ va_at X0.1 vwCl ((XA X0 q1 v q2 u q3).2.2 84, cel (XA X0 q1 v q2 u q3) M0c 84) H ∧ va_at X0.1 vwCl ((XA X0 q1 v q2 u q3).2.2 85, cel (XA X0 q1 v q2 u q3) M0c 85) H ∧ va_at X0.1 vwCl ((XA X0 q1 v q2 u q3).2.2 86, cel (XA X0 q1 v q2 u q3) M0c 86) H := ⟨by rw [cl_pass (n := 82) (by decide)]; exact h 0 _ rfl, by rw [cl_ia (n := 83) (by decide)]; exact h 1 _ rfl, by rw [cl_ia (n := 84) (by decide)]; exact h 2 _ rfl, by rw [cl_ia (n := 85) (by decide)]; exact h 3 _ rfl, by rw [cl_ia (n := 86) (by decide)]; exact h 4 _ rfl⟩
set_option maxRecDepth 100000 in
set_option maxHeartbeats 2000000 in
theorem wb_7 (h : va_P X0.1 vwCl (Wc_X5_init X0 (v.2 7).1 (v.2 7).2) H) : va_at X0.1 vwCl ((XA X0 q1 v q2 u q3).2.2 87, cel (XA X0 q1 v q2 u q3) M0c 87) H ∧ va_at X0.1 vwCl ((XA X0 q1 v q2 u q3).2.2 88, cel (XA X0 q1 v q2 u q3) M0c 88) H ∧ va_at X0.1 vwCl ((XA X0 q1 v q2 u q3).2.2 89, cel (XA X0 q1 v q2 u q3) M0c 89) H := ⟨by rw [cl_pair (n := 87) (by decide)]; exact h 0 _ rfl, by rw [cl_ia (n := 88) (by decide)]; exact h 1 _ rfl, by rw [cl_ia (n := 89) (by decide)]; exact h 2 _ rfl⟩
set_option maxRecDepth 100000 in
set_option maxHeartbeats 2000000 in
theorem wb_8 (h : va_P X0.1 vwCl (Wc_X0_init X0 (v.2 8).1 (v.2 8).2) H) : va_at X0.1 vwCl ((XA X0 q1 v q2 u q3).2.2 90, cel (XA X0 q1 v q2 u q3) M0c 90) H ∧ va_at X0.1 vwCl ((XA X0 q1 v q2 u q3).2.2 91, cel (XA X0 q1 v q2 u q3) M0c 91) H ∧ va_at X0.1 vwCl ((XA X0 q1 v q2 u q3).2.2 92, cel (XA X0 q1 v q2 u q3) M0c 92) H ∧ va_at X0.1 vwCl ((XA X0 q1 v q2 u q3).2.2 93, cel (XA X0 q1 v q2 u q3) M0c 93) H ∧ va_at X0.1 vwCl ((XA X0 q1 v q2 u q3).2.2 94, cel (XA X0 q1 v q2 u q3) M0c 94) H ∧ va_at X0.1 vwCl ((XA X0 q1 v q2 u q3).2.2 95, cel (XA X0 q1 v q2 u q3) M0c 95) H ∧ va_at X0.1 vwCl ((XA X0 q1 v q2 u q3).2.2 96, cel (XA X0 q1 v q2 u q3) M0c 96) H := ⟨by rw [cl_dear (n := 90) (by decide)]; exact h 0 _ rfl, by rw [cl_ja (n := 91) (by decide)]; exact h 1 _ rfl, by rw [cl_ia (n := 92) (by decide)]; exact h 2 _ rfl, by rw [cl_ia (n := 93) (by decide)]; exact h 3 _ rfl, by rw [cl_ja (n := 94) (by decide)]; exact h 4 _ rfl, by rw [cl_ja (n := 95) (by decide)]; exact h 5 _ rfl, by rw [cl_ia (n := 96) (by decide)]; exact h 6 _ rfl⟩
set_option maxRecDepth 100000 in
set_option maxHeartbeats 2000000 in
theorem wb_9 (h : va_P X0.1 vwCl (Wc_X1_init X0 (v.2 9).1 (v.2 9).2) H) : va_at X0.1 vwCl ((XA X0 q1 v q2 u q3).2.2 97, cel (XA X0 q1 v q2 u q3) M0c 97) H ∧ va_at X0.1 vwCl ((XA X0 q1 v q2 u q3).2.2 98, cel (XA X0 q1 v q2 u q3) M0c 98) H ∧ va_at X0.1 vwCl ((XA X0 q1 v q2 u q3).2.2 99, cel (XA X0 q1 v q2 u q3) M0c 99) H ∧ va_at X0.1 vwCl ((XA X0 q1 v q2 u q3).2.2 100, cel (XA X0 q1 v q2 u q3) M0c 100) H ∧ va_at X0.1 vwCl ((XA X0 q1 v q2 u q3).2.2 101, cel (XA X0 q1 v q2 u q3) M0c 101) H := ⟨by rw [cl_hr (n := 97) (by decide)]; exact h 0 _ rfl, by rw [cl_rd (n := 98) (by decide)]; exact h 1 _ rfl, by rw [cl_wa (n := 99) (by decide)]; exact h 2 _ rfl, by rw [cl_ia (n := 100) (by decide)]; exact h 3 _ rfl, by rw [cl_ia (n := 101) (by decide)]; exact h 4 _ rfl⟩
set_option maxRecDepth 100000 in
set_option maxHeartbeats 2000000 in
theorem wb_10 (h : va_P X0.1 vwCl (Wc_X3_init X0 (v.2 10).1 (v.2 10).2) H) : va_at X0.1 vwCl ((XA X0 q1 v q2 u q3).2.2 102, cel (XA X0 q1 v q2 u q3) M0c 102) H ∧ va_at X0.1 vwCl ((XA X0 q1 v q2 u q3).2.2 103, cel (XA X0 q1 v q2 u q3) M0c 103) H ∧ va_at X0.1 vwCl ((XA X0 q1 v q2 u q3).2.2 104, cel (XA X0 q1 v q2 u q3) M0c 104) H ∧ va_at X0.1 vwCl ((XA X0 q1 v q2 u q3).2.2 105, cel (XA X0 q1 v q2 u q3) M0c 105) H ∧ va_at X0.1 vwCl ((XA X0 q1 v q2 u q3).2.2 106, cel (XA X0 q1 v q2 u q3) M0c 106) H ∧ va_at X0.1 vwCl ((XA X0 q1 v q2 u q3).2.2 107, cel (XA X0 q1 v q2 u q3) M0c 107) H := ⟨by rw [cl_lr (n := 102) (by decide)]; exact h 0 _ rfl, by rw [cl_ia (n := 103) (by decide)]; exact h 5 _ rfl, by rw [cl_rd (n := 104) (by decide)]; exact h 1 _ rfl, by rw [cl_wa (n := 105) (by decide)]; exact h 2 _ rfl, by rw [cl_ia (n := 106) (by decide)]; exact h 3 _ rfl, by rw [cl_ia (n := 107) (by decide)]; exact h 4 _ rfl⟩
set_option maxRecDepth 100000 in
set_option maxHeartbeats 2000000 in
theorem wb_11 (h : va_P X0.1 vwCl (Wc_X4_init X0 (v.2 11).1 (v.2 11).2) H) : va_at X0.1 vwCl ((XA X0 q1 v q2 u q3).2.2 12, cel (XA X0 q1 v q2 u q3) M0c 12) H ∧ va_at X0.1 vwCl ((XA X0 q1 v q2 u q3).2.2 13, cel (XA X0 q1 v q2 u q3) M0c 13) H ∧ va_at X0.1 vwCl ((XA X0 q1 v q2 u q3).2.2 14, cel (XA X0 q1 v q2 u q3) M0c 14) H ∧ va_at X0.1 vwCl ((XA X0 q1 v q2 u q3).2.2 15, cel (XA X0 q1 v q2 u q3) M0c 15) H := ⟨by rw [cl_mus (n := 12) (by decide)]; exact h 0 _ rfl, by rw [cl_ia (n := 13) (by decide)]; exact h 1 _ rfl, by rw [cl_ia (n := 14) (by decide)]; exact h 2 _ rfl, by rw [cl_ia (n := 15) (by decide)]; exact h 3 _ rfl⟩
set_option maxRecDepth 100000 in
set_option maxHeartbeats 2000000 in
theorem wb_12 (h : va_P X0.1 vwCl (Wc_X4_init X0 (v.2 12).1 (v.2 12).2) H) : va_at X0.1 vwCl ((XA X0 q1 v q2 u q3).2.2 16, cel (XA X0 q1 v q2 u q3) M0c 16) H ∧ va_at X0.1 vwCl ((XA X0 q1 v q2 u q3).2.2 17, cel (XA X0 q1 v q2 u q3) M0c 17) H ∧ va_at X0.1 vwCl ((XA X0 q1 v q2 u q3).2.2 18, cel (XA X0 q1 v q2 u q3) M0c 18) H ∧ va_at X0.1 vwCl ((XA X0 q1 v q2 u q3).2.2 19, cel (XA X0 q1 v q2 u q3) M0c 19) H := ⟨by rw [cl_mus (n := 16) (by decide)]; exact h 0 _ rfl, by rw [cl_ia (n := 17) (by decide)]; exact h 1 _ rfl, by rw [cl_ia (n := 18) (by decide)]; exact h 2 _ rfl, by rw [cl_ia (n := 19) (by decide)]; exact h 3 _ rfl⟩
set_option maxRecDepth 100000 in
set_option maxHeartbeats 2000000 in
theorem wb_13 (h : va_P X0.1 vwCl (Wc_X4_init X0 (v.2 13).1 (v.2 13).2) H) : va_at X0.1 vwCl ((XA X0 q1 v q2 u q3).2.2 20, cel (XA X0 q1 v q2 u q3) M0c 20) H ∧ va_at X0.1 vwCl ((XA X0 q1 v q2 u q3).2.2 21, cel (XA X0 q1 v q2 u q3) M0c 21) H ∧ va_at X0.1 vwCl ((XA X0 q1 v q2 u q3).2.2 22, cel (XA X0 q1 v q2 u q3) M0c 22) H ∧ va_at X0.1 vwCl ((XA X0 q1 v q2 u q3).2.2 23, cel (XA X0 q1 v q2 u q3) M0c 23) H := ⟨by rw [cl_mus (n := 20) (by decide)]; exact h 0 _ rfl, by rw [cl_ia (n := 21) (by decide)]; exact h 1 _ rfl, by rw [cl_ia (n := 22) (by decide)]; exact h 2 _ rfl, by rw [cl_ia (n := 23) (by decide)]; exact h 3 _ rfl⟩
set_option maxRecDepth 100000 in
set_option maxHeartbeats 2000000 in
theorem wb_14 (h : va_P X0.1 vwCl (Wc_X4_init X0 (v.2 14).1 (v.2 14).2) H) : va_at X0.1 vwCl ((XA X0 q1 v q2 u q3).2.2 24, cel (XA X0 q1 v q2 u q3) M0c 24) H ∧ va_at X0.1 vwCl ((XA X0 q1 v q2 u q3).2.2 25, cel (XA X0 q1 v q2 u q3) M0c 25) H ∧ va_at X0.1 vwCl ((XA X0 q1 v q2 u q3).2.2 26, cel (XA X0 q1 v q2 u q3) M0c 26) H ∧ va_at X0.1 vwCl ((XA X0 q1 v q2 u q3).2.2 27, cel (XA X0 q1 v q2 u q3) M0c 27) H := ⟨by rw [cl_mus (n := 24) (by decide)]; exact h 0 _ rfl, by rw [cl_ia (n := 25) (by decide)]; exact h 1 _ rfl, by rw [cl_ia (n := 26) (by decide)]; exact h 2 _ rfl, by rw [cl_ia (n := 27) (by decide)]; exact h 3 _ rfl⟩
set_option maxRecDepth 100000 in
set_option maxHeartbeats 2000000 in
theorem wb_15 (h : va_P X0.1 vwCl (Wc_X4_init X0 (v.2 15).1 (v.2 15).2) H) : va_at X0.1 vwCl ((XA X0 q1 v q2 u q3).2.2 28, cel (XA X0 q1 v q2 u q3) M0c 28) H ∧ va_at X0.1 vwCl ((XA X0 q1 v q2 u q3).2.2 29, cel (XA X0 q1 v q2 u q3) M0c 29) H ∧ va_at X0.1 vwCl ((XA X0 q1 v q2 u q3).2.2 30, cel (XA X0 q1 v q2 u q3) M0c 30) H ∧ va_at X0.1 vwCl ((XA X0 q1 v q2 u q3).2.2 31, cel (XA X0 q1 v q2 u q3) M0c 31) H := ⟨by rw [cl_mus (n := 28) (by decide)]; exact h 0 _ rfl, by rw [cl_ia (n := 29) (by decide)]; exact h 1 _ rfl, by rw [cl_ia (n := 30) (by decide)]; exact h 2 _ rfl, by rw [cl_ia (n := 31) (by decide)]; exact h 3 _ rfl⟩
set_option maxRecDepth 100000 in
set_option maxHeartbeats 2000000 in
theorem wb_16 (h : va_P X0.1 vwCl (Wc_X4_init X0 (v.2 16).1 (v.2 16).2) H) : va_at X0.1 vwCl ((XA X0 q1 v q2 u q3).2.2 32, cel (XA X0 q1 v q2 u q3) M0c 32) H ∧ va_at X0.1 vwCl ((XA X0 q1 v q2 u q3).2.2 33, cel (XA X0 q1 v q2 u q3) M0c 33) H ∧ va_at X0.1 vwCl ((XA X0 q1 v q2 u q3).2.2 34, cel (XA X0 q1 v q2 u q3) M0c 34) H ∧ va_at X0.1 vwCl ((XA X0 q1 v q2 u q3).2.2 35, cel (XA X0 q1 v q2 u q3) M0c 35) H := ⟨by rw [cl_mus (n := 32) (by decide)]; exact h 0 _ rfl, by rw [cl_ia (n := 33) (by decide)]; exact h 1 _ rfl, by rw [cl_ia (n := 34) (by decide)]; exact h 2 _ rfl, by rw [cl_ia (n := 35) (by decide)]; exact h 3 _ rfl⟩
set_option maxRecDepth 100000 in
set_option maxHeartbeats 2000000 in
theorem wb_17 (h : va_P X0.1 vwCl (Wc_X4_init X0 (v.2 17).1 (v.2 17).2) H) : va_at X0.1 vwCl ((XA X0 q1 v q2 u q3).2.2 36, cel (XA X0 q1 v q2 u q3) M0c 36) H ∧ va_at X0.1 vwCl ((XA X0 q1 v q2 u q3).2.2 37, cel (XA X0 q1 v q2 u q3) M0c 37) H ∧ va_at X0.1 vwCl ((XA X0 q1 v q2 u q3).2.2 38, cel (XA X0 q1 v q2 u q3) M0c 38) H ∧ va_at X0.1 vwCl ((XA X0 q1 v q2 u q3).2.2 39, cel (XA X0 q1 v q2 u q3) M0c 39) H := ⟨by rw [cl_mus (n := 36) (by decide)]; exact h 0 _ rfl, by rw [cl_ia (n := 37) (by decide)]; exact h 1 _ rfl, by rw [cl_ia (n := 38) (by decide)]; exact h 2 _ rfl, by rw [cl_ia (n := 39) (by decide)]; exact h 3 _ rfl⟩
set_option maxRecDepth 100000 in
set_option maxHeartbeats 2000000 in
theorem wb_18 (h : va_P X0.1 vwCl (Wc_X4_init X0 (v.2 18).1 (v.2 18).2) H) : va_at X0.1 vwCl ((XA X0 q1 v q2 u q3).2.2 40, cel (XA X0 q1 v q2 u q3) M0c 40) H ∧ va_at X0.1 vwCl ((XA X0 q1 v q2 u q3).2.2 41, cel (XA X0 q1 v q2 u q3) M0c 41) H ∧ va_at X0.1 vwCl ((XA X0 q1 v q2 u q3).2.2 42, cel (XA X0 q1 v q2 u q3) M0c 42) H ∧ va_at X0.1 vwCl ((XA X0 q1 v q2 u q3).2.2 43, cel (XA X0 q1 v q2 u q3) M0c 43) H := ⟨by rw [cl_mus (n := 40) (by decide)]; exact h 0 _ rfl, by rw [cl_ia (n := 41) (by decide)]; exact h 1 _ rfl, by rw [cl_ia (n := 42) (by decide)]; exact h 2 _ rfl, by rw [cl_ia (n := 43) (by decide)]; exact h 3 _ rfl⟩
set_option maxRecDepth 100000 in
set_option maxHeartbeats 2000000 in
theorem wb_19 (h : va_P X0.1 vwCl (Wc_X4_init X0 (v.2 19).1 (v.2 19).2) H) : va_at X0.1 vwCl ((XA X0 q1 v q2 u q3).2.2 44, cel (XA X0 q1 v q2 u q3) M0c 44) H ∧ va_at X0.1 vwCl ((XA X0 q1 v q2 u q3).2.2 45, cel (XA X0 q1 v q2 u q3) M0c 45) H ∧ va_at X0.1 vwCl ((XA X0 q1 v q2 u q3).2.2 46, cel (XA X0 q1 v q2 u q3) M0c 46) H ∧ va_at X0.1 vwCl ((XA X0 q1 v q2 u q3).2.2 47, cel (XA X0 q1 v q2 u q3) M0c 47) H := ⟨by rw [cl_mus (n := 44) (by decide)]; exact h 0 _ rfl, by rw [cl_ia (n := 45) (by decide)]; exact h 1 _ rfl, by rw [cl_ia (n := 46) (by decide)]; exact h 2 _ rfl, by rw [cl_ia (n := 47) (by decide)]; exact h 3 _ rfl⟩
set_option maxRecDepth 100000 in
set_option maxHeartbeats 2000000 in
theorem wb_20 (h : va_P X0.1 vwCl (Wc_X4_init X0 (v.2 20).1 (v.2 20).2) H) : va_at X0.1 vwCl ((XA X0 q1 v q2 u q3).2.2 48, cel (XA X0 q1 v q2 u q3) M0c 48) H ∧ va_at X0.1 vwCl ((XA X0 q1 v q2 u q3).2.2 49, cel (XA X0 q1 v q2 u q3) M0c 49) H ∧ va_at X0.1 vwCl ((XA X0 q1 v q2 u q3).2.2 50, cel (XA X0 q1 v q2 u q3) M0c 50) H ∧ va_at X0.1 vwCl ((XA X0 q1 v q2 u q3).2.2 51, cel (XA X0 q1 v q2 u q3) M0c 51) H := ⟨by rw [cl_mus (n := 48) (by decide)]; exact h 0 _ rfl, by rw [cl_ia (n := 49) (by decide)]; exact h 1 _ rfl, by rw [cl_ia (n := 50) (by decide)]; exact h 2 _ rfl, by rw [cl_ia (n := 51) (by decide)]; exact h 3 _ rfl⟩
set_option maxRecDepth 100000 in
set_option maxHeartbeats 2000000 in
theorem wb_21 (h : va_P X0.1 vwCl (Wc_X4_init X0 (v.2 21).1 (v.2 21).2) H) : va_at X0.1 vwCl ((XA X0 q1 v q2 u q3).2.2 52, cel (XA X0 q1 v q2 u q3) M0c 52) H ∧ va_at X0.1 vwCl ((XA X0 q1 v q2 u q3).2.2 53, cel (XA X0 q1 v q2 u q3) M0c 53) H ∧ va_at X0.1 vwCl ((XA X0 q1 v q2 u q3).2.2 54, cel (XA X0 q1 v q2 u q3) M0c 54) H ∧ va_at X0.1 vwCl ((XA X0 q1 v q2 u q3).2.2 55, cel (XA X0 q1 v q2 u q3) M0c 55) H := ⟨by rw [cl_mus (n := 52) (by decide)]; exact h 0 _ rfl, by rw [cl_ia (n := 53) (by decide)]; exact h 1 _ rfl, by rw [cl_ia (n := 54) (by decide)]; exact h 2 _ rfl, by rw [cl_ia (n := 55) (by decide)]; exact h 3 _ rfl⟩
set_option maxRecDepth 100000 in
set_option maxHeartbeats 2000000 in
theorem wb_22 (h : va_P X0.1 vwCl (Wc_X4_init X0 (v.2 22).1 (v.2 22).2) H) : va_at X0.1 vwCl ((XA X0 q1 v q2 u q3).2.2 56, cel (XA X0 q1 v q2 u q3) M0c 56) H ∧ va_at X0.1 vwCl ((XA X0 q1 v q2 u q3).2.2 57, cel (XA X0 q1 v q2 u q3) M0c 57) H ∧ va_at X0.1 vwCl ((XA X0 q1 v q2 u q3).2.2 58, cel (XA X0 q1 v q2 u q3) M0c 58) H ∧ va_at X0.1 vwCl ((XA X0 q1 v q2 u q3).2.2 59, cel (XA X0 q1 v q2 u q3) M0c 59) H := ⟨by rw [cl_mus (n := 56) (by decide)]; exact h 0 _ rfl, by rw [cl_ia (n := 57) (by decide)]; exact h 1 _ rfl, by rw [cl_ia (n := 58) (by decide)]; exact h 2 _ rfl, by rw [cl_ia (n := 59) (by decide)]; exact h 3 _ rfl⟩
end WAT
theorem cr_109 {X : Cx} : cel X M0r 109 = .inr (9, [.int 0, .ref (X.2.2 110), .ref (X.2.2 111), .int 0, .ref (X.2.2 112), .ref (X.2.2 113), .int 0, .ref (X.2.2 114), .int 0, .int 0, .int 0, .int 0, .int (-1), .int 0, .ref (X.2.2 115), .int 0, .int 0, .int 0, .ref (X.2.2 116), .ref (X.2.2 117), .ref (X.2.2 118), .ref (X.2.2 119), .ref (X.2.2 120), .ref (X.2.2 121), .ref (X.2.2 122), .ref (X.2.2 123), .ref (X.2.2 124), .ref (X.2.2 125)]) := by
  rw [cel_o (k := 9) (by decide) (by decide)]
  simp [flds, slv, ty, nf, fts, List.range, List.range.loop, M0r, i0r]
theorem cr_110 {X : Cx} : cel X M0r 110 = .inl (X.2.1 0, 807, .inl (upd (upd (upd (fun _ => 0) 1 (-1)) 5 2) 9 1)) := by
  rw [cel_i (by decide)]
  have e : M0r.1 110 = upd (upd (upd (fun _ => 0) 1 (-1)) 5 2) 9 1 := by
    funext b
    by_cases h1 : b = 1
    · subst h1; rfl
    · by_cases h2 : b = 5
      · subst h2; rfl
      · by_cases h3 : b = 9
        · subst h3; rfl
        · simp [M0r, i0r, upd, h1, h2, h3]
  rw [e]; rfl
section WAT2
variable {X0 : Cx} {q1 : Nat} {v : V9} {q2 : Nat} {u : Nat → Nat} {q3 : Nat} {H : Heap}
set_option maxRecDepth 100000 in
set_option maxHeartbeats 4000000 in
theorem wb_m (h : va_P X0.1 vwCl (Wc_X10_init X0 q2 u) H) : va_at X0.1 vwCl ((XA X0 q1 v q2 u q3).2.2 109, cel (XA X0 q1 v q2 u q3) M0r 109) H ∧ va_at X0.1 vwCl ((XA X0 q1 v q2 u q3).2.2 110, cel (XA X0 q1 v q2 u q3) M0r 110) H ∧ va_at X0.1 vwCl ((XA X0 q1 v q2 u q3).2.2 111, cel (XA X0 q1 v q2 u q3) M0r 111) H ∧ va_at X0.1 vwCl ((XA X0 q1 v q2 u q3).2.2 112, cel (XA X0 q1 v q2 u q3) M0r 112) H ∧ va_at X0.1 vwCl ((XA X0 q1 v q2 u q3).2.2 113, cel (XA X0 q1 v q2 u q3) M0r 113) H ∧ va_at X0.1 vwCl ((XA X0 q1 v q2 u q3).2.2 114, cel (XA X0 q1 v q2 u q3) M0r 114) H ∧ va_at X0.1 vwCl ((XA X0 q1 v q2 u q3).2.2 115, cel (XA X0 q1 v q2 u q3) M0r 115) H ∧ va_at X0.1 vwCl ((XA X0 q1 v q2 u q3).2.2 116, cel (XA X0 q1 v q2 u q3) M0r 116) H ∧ va_at X0.1 vwCl ((XA X0 q1 v q2 u q3).2.2 117, cel (XA X0 q1 v q2 u q3) M0r 117) H ∧ va_at X0.1 vwCl ((XA X0 q1 v q2 u q3).2.2 118, cel (XA X0 q1 v q2 u q3) M0r 118) H ∧ va_at X0.1 vwCl ((XA X0 q1 v q2 u q3).2.2 119, cel (XA X0 q1 v q2 u q3) M0r 119) H ∧ va_at X0.1 vwCl ((XA X0 q1 v q2 u q3).2.2 120, cel (XA X0 q1 v q2 u q3) M0r 120) H ∧ va_at X0.1 vwCl ((XA X0 q1 v q2 u q3).2.2 121, cel (XA X0 q1 v q2 u q3) M0r 121) H ∧ va_at X0.1 vwCl ((XA X0 q1 v q2 u q3).2.2 122, cel (XA X0 q1 v q2 u q3) M0r 122) H ∧ va_at X0.1 vwCl ((XA X0 q1 v q2 u q3).2.2 123, cel (XA X0 q1 v q2 u q3) M0r 123) H ∧ va_at X0.1 vwCl ((XA X0 q1 v q2 u q3).2.2 124, cel (XA X0 q1 v q2 u q3) M0r 124) H ∧ va_at X0.1 vwCl ((XA X0 q1 v q2 u q3).2.2 125, cel (XA X0 q1 v q2 u q3) M0r 125) H := ⟨by rw [cr_109]; exact h 0 _ rfl, by rw [cr_110]; exact h 1 _ rfl, by rw [cr_ia (n := 111) (by decide) (by decide)]; exact h 2 _ rfl, by rw [cr_ia (n := 112) (by decide) (by decide)]; exact h 3 _ rfl, by rw [cr_ia (n := 113) (by decide) (by decide)]; exact h 4 _ rfl, by rw [cr_ia (n := 114) (by decide) (by decide)]; exact h 5 _ rfl, by rw [cr_ia (n := 115) (by decide) (by decide)]; exact h 6 _ rfl, by rw [cr_ia (n := 116) (by decide) (by decide)]; exact h 7 _ rfl, by rw [cr_ia (n := 117) (by decide) (by decide)]; exact h 8 _ rfl, by rw [cr_ia (n := 118) (by decide) (by decide)]; exact h 9 _ rfl, by rw [cr_ia (n := 119) (by decide) (by decide)]; exact h 10 _ rfl, by rw [cr_ia (n := 120) (by decide) (by decide)]; exact h 11 _ rfl, by rw [cr_ia (n := 121) (by decide) (by decide)]; exact h 12 _ rfl, by rw [cr_ia (n := 122) (by decide) (by decide)]; exact h 13 _ rfl, by rw [cr_ia (n := 123) (by decide) (by decide)]; exact h 14 _ rfl, by rw [cr_ia (n := 124) (by decide) (by decide)]; exact h 15 _ rfl, by rw [cr_za (n := 125) (by decide)]; exact h 16 _ rfl⟩
end WAT2
