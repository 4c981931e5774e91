theorem OF_of {args : Array Value} {s : State} {tm : Term} {o n d : String} {v : Value} {a : Nat} {A : Nat → Prop} (ht : tm.eval args s none [] s = some (.ref a)) (hv : (Term.field tm o n d).eval args s none [] s = some v) (hA : ∀ a : Nat, a < s.heap.size → ¬ A a) : va_OF o n d v a A s s.heap := by
  cases hfo : s.fieldFound? o n d with
  | none =>
    rw [va_fe ht] at hv
    simp [State.fieldOf?, State.fieldNamed?, hfo] at hv
  | some x =>
    obtain ⟨cf, k, fi, f⟩ := x
    obtain ⟨g1, cell, g2, g3, -, -, g6⟩ := Term.field_spec hfo ht hv
    exact ⟨cf, k, fi, f, cell, hfo, g1, g2, g3, g6, hA _ (Array.getElem?_eq_some_iff.mp g2).1⟩
theorem OF_uq {o n d : String} {v v2 : Value} {t : Nat} {A : Nat → Prop} {U : State} {H : Heap} (h : va_OF o n d v t A U H) (h2 : va_OF o n d v2 t A U H) : v = v2 := by
  obtain ⟨cf, k, i, f, cell, a1, a2, a3, a4, a5, a6⟩ := h
  obtain ⟨cf2, k2, i2, f2, cell2, b1, b2, b3, b4, b5, b6⟩ := h2
  cases a1.symm.trans b1
  cases a3.symm.trans b3
  exact Option.some.inj (a5.symm.trans b5)
theorem arr_prim {s : State} {args : Array Value} {ty : FieldType} (hp : ∀ C, ty ≠ .object C) (h : (Cond.arrayClass ty).before args s = true) : ∃ cA, ArrOfT s cA ty ∧ va_RA s cA ty := by
  obtain ⟨cA, kA, comp, h1, h2, h3⟩ := Cond.arrayClass_spec h
  refine ⟨cA, fun n z => ⟨fun k h => (by cases h), kA, h2, comp, h3⟩, ?_⟩
  cases ty with
  | object C => exact absurd rfl (hp C)
  | _ => exact h1
theorem arr_obj {s : State} {args : Array Value} {C : String} (h : (Cond.arrayOver (.object C)).before args s = true) : ∃ cA, ArrOfT s cA (.object C) ∧ va_RA s cA (.object C) := by
  obtain ⟨comp, cA, kA, h1, h2, h3, h4, h5⟩ := Cond.arrayOver_spec h
  exact ⟨cA, fun n z => ⟨(fun k h => by cases h), kA, h3, comp, h4⟩, kA, comp, h3, h4, h1, h5⟩
set_option maxHeartbeats 4000000 in
theorem ev_start {s : State} {args : Array Value} (hts : ∀ w ∈ lw_tbl, w.before args s = true) (hg : (Cond.and given_1 narrow_1).before args s = true) : ∃ X : Cx, EVC X (fun q => s.heap.size ≤ q) s s.heap ∧ NCF s := by
  have hA : ∀ a : Nat, a < s.heap.size → ¬ (fun q => s.heap.size ≤ q) a := fun a h h2 => absurd h (Nat.not_lt.mpr h2)
  have hN : ∀ {i : Nat} {c : Cond}, nar[i]? = some c → c.before args s = true := fun h => nar_at hg h
  have hG : ∀ n : Nat, ∃ t : Nat, (300 ≤ n → n < 331 → (tmW (n - 300)).eval args s none [] s = some (.ref t)) ∧ (400 ≤ n → n < 475 → (tmS (n - 400)).eval args s none [] s = some (.ref t)) ∧ (600 ≤ n → n < 675 → (tmV (n - 600)).eval args s none [] s = some (.ref t)) ∧ (n = 299 → (Term.static RX9 "WORDS" "[LBeltHall$Word;").eval args s none [] s = some (.ref t)) := by
    intro n
    by_cases h1 : 300 ≤ n ∧ n < 331
    · obtain ⟨a, c, cell, k, q1, -⟩ := Cond.exactly_spec (hN (nr_E (n - 300) (by omega)))
      exact ⟨a, fun _ _ => q1, fun h => by omega, fun h => by omega, fun h => by omega⟩
    · by_cases h2 : 400 ≤ n ∧ n < 475
      · obtain ⟨a, c, cell, k, q1, -⟩ := Cond.exactly_spec (hN (nr_T (n - 400) (by omega)).1)
        exact ⟨a, fun h => by omega, fun _ _ => q1, fun h => by omega, fun h => by omega⟩
      · by_cases h3 : 600 ≤ n ∧ n < 675
        · obtain ⟨t, q1, -⟩ := va_Tof (f := fun j => .int ((StrB.getD (n - 600) []).getD j 0)) (sb_len (n - 600) (by omega)) (hN (nr_T (n - 600) (by omega)).2.2.1) (va_eqt (hN (nr_T (n - 600) (by omega)).2.2.2)) (fun j hj => va_eqt (hN (nr_B (n - 600) (by omega) j hj))) hA
          exact ⟨t, fun h => by omega, fun h => by omega, fun _ _ => q1, fun h => by omega⟩
        · by_cases h4 : n = 299
          · have hex : ∀ j : Nat, ∃ v : Value, j < 31 → (tmW j).eval args s none [] s = some v := fun j => by
              by_cases hj : j < 31
              · obtain ⟨a, c, cell, k, q1, -⟩ := Cond.exactly_spec (hN (nr_E j hj))
                exact ⟨.ref a, fun _ => q1⟩
              · exact ⟨.null, fun h => absurd h hj⟩
            obtain ⟨f, hf⟩ := Classical.axiomOfChoice hex
            obtain ⟨t, q1, -⟩ := va_Tof (N := 31) (f := f) (by decide) (hN nr_W) (va_eqt (hN nr_Wl)) (fun j hj => va_eqv (hN (nr_We j hj)) (hf j hj)) hA
            exact ⟨t, fun h => by omega, fun h => by omega, fun h => by omega, fun _ => q1⟩
          · exact ⟨0, fun h => by omega, fun h => by omega, fun h => by omega, fun h => absurd h h4⟩
  obtain ⟨G, hG⟩ := Classical.axiomOfChoice hG
  have gW : ∀ i, i < 31 → (tmW i).eval args s none [] s = some (.ref (G (300 + i))) := fun i hi => by
    have h := (hG (300 + i)).1 (by omega) (by omega)
    rw [Nat.add_sub_cancel_left] at h; exact h
  have gS : ∀ i, i < 75 → (tmS i).eval args s none [] s = some (.ref (G (400 + i))) := fun i hi => by
    have h := (hG (400 + i)).2.1 (by omega) (by omega)
    rw [Nat.add_sub_cancel_left] at h; exact h
  have gV : ∀ i, i < 75 → (tmV i).eval args s none [] s = some (.ref (G (600 + i))) := fun i hi => by
    have h := (hG (600 + i)).2.2.1 (by omega) (by omega)
    rw [Nat.add_sub_cancel_left] at h; exact h
  have gA := (hG 299).2.2.2 rfl
  obtain ⟨c0, i0, k0⟩ := u_known hts inX0 (hts _ tb_n0)
  obtain ⟨c1, i1, k1⟩ := u_known hts inX1 (hts _ tb_n1)
  obtain ⟨c2, i2, k2⟩ := u_known hts inX2 (hts _ tb_n2)
  obtain ⟨c3, i3, k3⟩ := u_known hts inX3 (hts _ tb_n3)
  obtain ⟨c4, i4, k4⟩ := u_known hts inX4 (hts _ tb_n4)
  obtain ⟨c5, i5, k5⟩ := u_known hts inX5 (hts _ tb_n5)
  obtain ⟨c6, i6, k6⟩ := u_known hts inX6 (hts _ tb_n6)
  obtain ⟨c7, i7, k7⟩ := u_known hts inX7 (hts _ tb_n7)
  obtain ⟨c9, i9, k9⟩ := u_known hts inX9 (hts _ tb_n9)
  obtain ⟨c10, i10, k10⟩ := u_known hts inX10 (hts _ tb_n10)
  obtain ⟨a0, p0, r0⟩ := arr_prim (ty := .int) (fun C h => nomatch h) (hts _ tb_a1)
  obtain ⟨a1, p1, r1⟩ := arr_prim (ty := .long) (fun C h => nomatch h) (hts _ tb_a2)
  obtain ⟨a2, p2, r2⟩ := arr_obj (hts _ tb_o4)
  obtain ⟨a3, p3, r3⟩ := arr_obj (hts _ tb_o8)
  obtain ⟨a4, p4, r4⟩ := arr_prim (ty := .boolean) (fun C h => nomatch h) (hts _ tb_a3)
  refine ⟨((fun c => [c0, c1, c2, c3, c4, c5, c6, c7, c9, c10].getD c c0, fun c => [i0, i1, i2, i3, i4, i5, i6, i7, i9, i10].getD c i0), fun t => [a0, a1, a2, a3, a4].getD t a0, G), ⟨⟨⟨fun c q hq => ?_, fun k q hk => ?_⟩, fun z hz => ?_, ?_⟩, va_AO.of (hts _ tb_o8), va_AO.of (hts _ tb_o4)⟩, fun q hq => va_Nc.of (flat_of_before _ hg _ (nr_N q hq))⟩
  · have hc : c < 10 := (List.getElem?_eq_some_iff.mp hq).1
    rcases (show c = 0 ∨ c = 1 ∨ c = 2 ∨ c = 3 ∨ c = 4 ∨ c = 5 ∨ c = 6 ∨ c = 7 ∨ c = 8 ∨ c = 9 by omega) with rfl | rfl | rfl | rfl | rfl | rfl | rfl | rfl | rfl | rfl
    · cases hq; exact k0
    · cases hq; exact k1
    · cases hq; exact k2
    · cases hq; exact k3
    · cases hq; exact k4
    · cases hq; exact k5
    · cases hq; exact k6
    · cases hq; exact k7
    · cases hq; exact k9
    · cases hq; exact k10
  · have hc : k < 5 := (List.getElem?_eq_some_iff.mp hk).1
    rcases (show k = 0 ∨ k = 1 ∨ k = 2 ∨ k = 3 ∨ k = 4 by omega) with rfl | rfl | rfl | rfl | rfl
    · cases hk; exact ⟨p0, r0⟩
    · cases hk; exact ⟨p1, r1⟩
    · cases hk; exact ⟨p2, r2⟩
    · cases hk; exact ⟨p3, r3⟩
    · cases hk; exact ⟨p4, r4⟩
  · have h := List.mem_filter.mp hz
    have h2 := h.2
    refine va_Nw.of ?_ (hts z h.1)
    cases z <;> first | rfl | cases h2
  · refine ⟨⟨fun i hi => ⟨va_Zref (hts _ (mt_all (tb_L i hi))) (hts _ tb_i0) (gW i hi) hA, va_Oof (hN (nr_E i hi)) (gW i hi) hA, fun q hq => ?_⟩, fun i j hi hj e => ?_⟩, fun i hi => OF_of (gW i hi) (va_eqv (hN (nr_S i hi)) (gS _ (sp_lt i hi))) hA, va_Zref (hts _ tb_1) (hts _ tb_i1) gA hA, ?_, fun i q hq => ?_, va_Zof (hts _ tb_2) (hts _ tb_i2) (va_eqt (hN nr_C)) hA, vx_Zqof (hts _ tb_3) (hts _ tb_i3) (hN nr_R1) hA, vx_Zqof (hts _ tb_4) (hts _ tb_i3) (hN nr_R2) hA, va_Zqof (hts _ tb_5) (hts _ tb_i4) (hN nr_R3) hA⟩
    · rcases List.mem_cons.mp hq with rfl | hq
      · exact OF_of (gW i hi) (va_eqt (hN (nr_P i hi))) hA
      · cases hq
    · have e1 := OF_of (gW i hi) (va_eqt (hN (nr_O i hi))) hA
      have e2 := OF_of (gW j hj) (va_eqt (hN (nr_O j hj))) hA
      rw [show G (300 + j) = G (300 + i) from e.symm] at e2
      have e3 := OF_uq e1 e2
      have hi2 : i < 31 := hi
      have hj2 : j < 31 := hj
      exact (nI_eq (by omega) (by omega)).mp (Value.int.inj e3)
    · obtain ⟨t, q1, q2⟩ := va_Tof (N := 31) (f := fun j => .ref (G (300 + j))) (by decide) (hN nr_W) (va_eqt (hN nr_Wl)) (fun j hj => va_eqv (hN (nr_We j hj)) (gW j hj)) hA
      cases gA.symm.trans q1
      exact q2
    · have hi : i < 75 := (List.getElem?_eq_some_iff.mp hq).1
      have hq2 : StrL.getD i ("", 0, "") = q := by rw [List.getD_eq_getElem?_getD, hq]; rfl
      obtain ⟨n1, n2, n3, n4⟩ := nr_T i hi
      have g1 := gS i hi
      have s1 := hts _ (mt_all (tb_S i hi))
      obtain ⟨t, q1, q3⟩ := va_Tof (f := fun j => .int ((StrB.getD i []).getD j 0)) (sb_len i hi) (hN n3) (va_eqt (hN n4)) (fun j hj => va_eqt (hN (nr_B i hi j hj))) hA
      cases (gV i hi).symm.trans q1
      have o1 := va_Oof (hN n1) g1 hA
      have o2 := OF_of g1 (va_eqt (hN n2)) hA
      have o3 := OF_of g1 q1 hA
      subst hq2
      exact ⟨vk_R.of s1 g1, o1, o2, o3, q3⟩
