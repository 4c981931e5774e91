/-! remember, whole; one number of the museum set -/
section REM2
variable {LR : Mm → Nat → (Nat → Int32) → Prop} {LK : (Nat → Int32) → Nat → Nat → Int32 → Int32} {n : Nat} {M N Mc Mr Nc Nr : Mm} {q L B a d c : Nat} {m m2 : Nat → Int32} {x x1 x2 x3 x4 x5 : Int32}
theorem remCR (HL : LSpec LR LK) (h : RR LR n Mc Mr) : ∃ Nc Nr, f_X9_remember Mc = some Nc ∧ f_X10_remembers Mr = some Nr ∧ RR LR n Nc Nr ∧ Nr.1 110 = Mr.1 110 ∧ Nr.1 109 0 = Mr.1 109 0 ∧ Nc.2.2 1 = Mc.2.2 1 := by
  have h0 := h
  obtain ⟨⟨k1, k2, k3, k4, k5, k6, k7⟩, ⟨j1, j2, j3, j4, j5⟩, ⟨a1, a2, a3⟩, ⟨b1, b2, b3⟩, c1, ⟨d1, d2, d3⟩, ⟨e1, e2, e3⟩⟩ := h
  obtain ⟨e1, e1'⟩ := e1
  generalize hA : (Mr.1 109 6).toNatClampNeg = A at e1 e1' e3
  have g11 : gI Mc 1 11 = nI A := e2.trans e1
  have r6 : gI Mr 109 6 = nI A := e1
  by_cases hlt : A < 12
  · obtain ⟨Nc, Nr, p1, p2, p3⟩ := remJ HL h0 e1 hlt
    refine ⟨Nc, Nr, ?_, ?_, p3⟩
    · unfold f_X9_remember
      rw [g11, if_pos (by rw [l12, nI_ltI (by omega) (by omega)]; omega)]
      exact p1
    · unfold f_X10_remembers
      rw [r6, if_neg (by rw [l12, nI_eq (by omega) (by omega)]; omega)]
      exact p2
  · have eA : A = 12 := by omega
    subst eA
    obtain ⟨N1, p1, p2, p3, p4⟩ := forgetC (Mc := Mc) (fun j hj => (k6 j hj).1)
    obtain ⟨K, t1, t2, t3⟩ := shiftR (Mr := Mr)
    have m1 := md4 k1
    have m2 := md4 k2
    have l1 := (lnL j1).2.2.2.2.2
    have f : ∀ i, i ≠ 1 → N1.1 i = Mc.1 i := fun i h1 => by rw [p2, sI_fn h1]
    have f1 : ∀ b, b ≠ 11 → N1.1 1 b = Mc.1 1 b := fun b hb => by rw [p2, sI_at, if_neg (by omega)]
    have f11 : N1.1 1 11 = nI 11 := by rw [p2, sI_at, if_pos ⟨rfl, rfl⟩]
    have r : ∀ i, i ≠ 109 → i ≠ 113 → (sI K 109 6 (nI 11)).1 i = Mr.1 i := fun i h1 h2 => by rw [sI_fn h1, (t2 i (by simpa using h2)).1]
    have r1 : ∀ b, b ≠ 6 → (sI K 109 6 (nI 11)).1 109 b = Mr.1 109 b := fun b h1 => by
      rw [sI_at, if_neg (by omega), (t2 109 (by simp)).1]
    have r2 : (sI K 109 6 (nI 11)).1 109 6 = nI 11 := by rw [sI_at, if_pos ⟨rfl, rfl⟩]
    have r3 : (sI K 109 6 (nI 11)).1 113 = K.1 113 := sI_fn (by decide)
    have mid : RR LR n N1 (sI K 109 6 (nI 11)) := by
      unfold RR
      rw [p3 1 (by decide), f1 1 (by decide), f1 2 (by decide), f1 9 (by decide), f11, f 2 (by decide), r 110 (by decide) (by decide), r 111 (by decide) (by decide), r3, r 114 (by decide) (by decide), r1 8 (by decide), r1 12 (by decide), r1 3 (by decide), r2]
      refine ⟨⟨k1, k2, k3, k4, k5, fun j hj => ?_, fun j k hj hk e => ?_⟩, ⟨j1, j2, j3, j4, j5⟩, ⟨a1.fr (fun i h1 h2 => f i (by omega)), a2, HL.1 _ _ _ _ a3 (fun i h1 h2 => f i (by omega))⟩, ⟨b1, b2, b3⟩, c1, ⟨d1, d2, fun hh => ?_⟩, ⟨isN_nI (by decide) (by decide), rfl, fun j hj => ?_⟩⟩
      · rw [p4 j hj]
        exact k6 _ (Nat.mod_lt _ (by decide))
      · rw [p4 j hj, p4 k hk] at e
        have := k7 _ _ (Nat.mod_lt _ (by decide)) (Nat.mod_lt _ (by decide)) e
        omega
      · obtain ⟨x1, x2, x3⟩ := d3 hh
        exact ⟨x1.fr (fun i h1 h2 => f i (by omega)), x2, HL.1 _ _ _ _ x3 (fun i h1 h2 => f i (by omega))⟩
      · rw [nI_clamp (by decide)] at hj
        obtain ⟨x1, x2, x3, x4⟩ := e3 (j + 1) (by omega)
        have hq := k6 (j + 1) (by omega)
        have := md4 hq.1
        have hE : ∀ k, k < 407 → K.1 113 (407 * j + k) = Mr.1 113 (407 * (j + 1) + k) := fun k hk => by
          rw [t3 _ (by omega)]
          rw [show 407 * j + k + 407 = 407 * (j + 1) + k by omega]
        rw [p4 j (by omega), Nat.mod_eq_of_lt (show j + 1 < 12 by omega)]
        exact ⟨(x1.cg (m2 := fun k => K.1 113 (407 * j + k)) hE).fr (fun i h1 h2 => f i (by omega)), x2.cg hE, (hE 1 (by decide)).trans x3, (hE 2 (by decide)).trans x4⟩
    obtain ⟨Nc, Nr, q1, q2, q3, q4, q5, q6⟩ := remJ HL mid r2 (by decide)
    refine ⟨Nc, Nr, ?_, ?_, q3, ?_, ?_, ?_⟩
    · unfold f_X9_remember
      rw [g11, if_neg (by decide), p1, Option.bind_some]
      exact q1
    · unfold f_X10_remembers
      have g6K : gI K 109 6 = nI 12 := by show K.1 109 6 = _; rw [(t2 109 (by simp)).1]; exact r6
      rw [r6, if_pos (by decide), t1, Option.bind_some, g6K, Option.bind_some]
      exact q2
    · rw [q4, r 110 (by decide) (by decide)]
    · rw [q5, r1 0 (by decide)]
    · rw [q6, p3 1 (by decide)]
/-- a row with one other number -/
def uk (m : Nat → Int32) (k : Nat) (x : Int32) : Nat → Int32 := fun j => if j = k then x else m j
theorem uk_ne {k j : Nat} (h : j ≠ k) : uk m k x j = m j := if_neg h
theorem uk_eq {k : Nat} : uk m k x k = x := if_pos rfl
theorem uk_110 {k : Nat} : (sI M 110 k x).1 110 = uk (M.1 110) k x := by
  funext j
  rw [sI_at]
  by_cases e : j = k <;> simp [uk, e]
theorem eqL_uk {k : Nat} (h1 : 3 ≤ k) (h2 : k < 407) : eqL m (uk m k x) := ⟨uk_ne (by omega), uk_ne (by omega), fun j h3 h4 => uk_ne (by omega)⟩
theorem MR.ukT (hk : kd q = 4) (h : MR M q m) {j : Nat} (hj : j < 45) : MR (sI M (q + 1) j x) q (uk m (12 + j) x) := by
  obtain ⟨e1, e2, e3, e4, e5, e6, e7, e8, e9, e10⟩ := h
  have f : ∀ i, i ≠ q + 1 → (sI M (q + 1) j x).1 i = M.1 i := fun i hi => sI_fn hi
  refine ⟨fun k hk2 => ?_, fun k hk2 => ?_, ?_, ?_, ?_, ?_, ?_, ?_, ?_, fun a c ha hc => ?_⟩
  · rw [sI_at]
    by_cases e : k = j
    · rw [if_pos ⟨rfl, e⟩, e, uk_eq]
    · rw [if_neg (by omega), uk_ne (by omega)]; exact e1 k hk2
  · rw [f _ (by omega), uk_ne (by omega)]; exact e2 k hk2
  · rw [f _ (by omega), uk_ne (by omega)]; exact e3
  · rw [f _ (by omega), uk_ne (by omega)]; exact e4
  · rw [f _ (by omega), uk_ne (by omega)]; exact e5
  · rw [f _ (by omega), uk_ne (by omega)]; exact e6
  · rw [f _ (by omega), uk_ne (by omega)]; exact e7
  · rw [f _ (by omega), uk_ne (by omega)]; exact e8
  · rw [f _ (by omega), uk_ne (by omega)]; exact e9
  · have hh : hN (uk m (12 + j) x) = hN m := by unfold hN; rw [uk_ne (by omega)]
    rw [hh] at ha ⊢
    rw [f _ (by omega), uk_ne (by omega)]; exact e10 a c ha hc
theorem MR.ukV (hk : kd q = 4) (h : MR M q m) {j : Nat} (hj : j < 50) : MR (sI M (q + 2) j x) q (uk m (57 + j) x) := by
  obtain ⟨e1, e2, e3, e4, e5, e6, e7, e8, e9, e10⟩ := h
  have f : ∀ i, i ≠ q + 2 → (sI M (q + 2) j x).1 i = M.1 i := fun i hi => sI_fn hi
  refine ⟨fun k hk2 => ?_, fun k hk2 => ?_, ?_, ?_, ?_, ?_, ?_, ?_, ?_, fun a c ha hc => ?_⟩
  · rw [f _ (by omega), uk_ne (by omega)]; exact e1 k hk2
  · rw [sI_at]
    by_cases e : k = j
    · rw [if_pos ⟨rfl, e⟩, e, uk_eq]
    · rw [if_neg (by omega), uk_ne (by omega)]; exact e2 k hk2
  · rw [f _ (by omega), uk_ne (by omega)]; exact e3
  · rw [f _ (by omega), uk_ne (by omega)]; exact e4
  · rw [f _ (by omega), uk_ne (by omega)]; exact e5
  · rw [f _ (by omega), uk_ne (by omega)]; exact e6
  · rw [f _ (by omega), uk_ne (by omega)]; exact e7
  · rw [f _ (by omega), uk_ne (by omega)]; exact e8
  · rw [f _ (by omega), uk_ne (by omega)]; exact e9
  · have hh : hN (uk m (57 + j) x) = hN m := by unfold hN; rw [uk_ne (by omega)]
    rw [hh] at ha ⊢
    rw [f _ (by omega), uk_ne (by omega)]; exact e10 a c ha hc
/-- which numbers a thing's column may have -/
def okT (c : Nat) (x : Int32) : Prop := (c = 0 ∧ isN x 19) ∨ (c = 1 ∧ isN x 99) ∨ (c = 3 ∧ isN x 1) ∨ (c = 4 ∧ isN x 99)
theorem uk_tN {k : Nat} (h : 8 < k) : tN (uk m k x) = tN m ∧ vN (uk m k x) = vN m ∧ hN (uk m k x) = hN m := by
  unfold tN vN hN
  rw [uk_ne (by omega), uk_ne (by omega), uk_ne (by omega)]
  exact ⟨rfl, rfl, rfl⟩
theorem Inv.ukT (h : Inv m B) {t c : Nat} (ht : t < 9) (hc : c < 5) (ok : okT c x) : Inv (uk m (12 + 5 * t + c) x) B := by
  have hT := h.t
  have hV := h.v
  obtain ⟨e1, e2, e3, e4, e5, e6, e7, e8, e9⟩ := h
  obtain ⟨n1, n2, n3⟩ := uk_tN (m := m) (x := x) (k := 12 + 5 * t + c) (by omega)
  have u : ∀ j, j ≠ 12 + 5 * t + c → uk m (12 + 5 * t + c) x j = m j := fun j hj => uk_ne hj
  unfold Inv
  rw [n1, n2, n3, u 3 (by omega), u 4 (by omega), u 0 (by omega), u 5 (by omega), u 7 (by omega), u 8 (by omega)]
  refine ⟨e1, e2, e3, e4, e5, e6, fun t2 ht2 => ?_, fun v hv => ?_, fun a ha => ?_⟩
  · have g : ∀ c2, c2 < 5 → uk m (12 + 5 * t + c) x (12 + 5 * t2 + c2) = if t2 = t ∧ c2 = c then x else m (12 + 5 * t2 + c2) := fun c2 h2 => by
      by_cases e : t2 = t ∧ c2 = c
      · rw [if_pos e, e.1, e.2, uk_eq]
      · rw [if_neg e, uk_ne (by omega)]
    rw [g 0 (by decide), g 2 (by decide), g 3 (by decide), g 1 (by decide), g 4 (by decide)]
    obtain ⟨f0, ⟨f2, f3⟩, f4, f5, f6⟩ := e7 t2 ht2
    by_cases et : t2 = t
    · rcases ok with ⟨rfl, hx⟩ | ⟨rfl, hx⟩ | ⟨rfl, hx⟩ | ⟨rfl, hx⟩ <;> simp [et] at * <;> simp [*]
    · simp [et]
      exact ⟨f0, ⟨f2, f3⟩, f4, f5, f6⟩
  · rw [u _ (by omega), u _ (by omega)]; exact e8 v hv
  · rw [u _ (by omega)]; exact e9 a ha
def okW (c : Nat) (x : Int32) : Prop := c = 0 ∨ (c = 1 ∧ isN x 9) ∨ c = 2 ∨ c = 3 ∨ (c = 4 ∧ isN x 63)
theorem Inv.ukV (h : Inv m B) {t c : Nat} (ht : t < 10) (hc : c < 5) (ok : okW c x) : Inv (uk m (57 + 5 * t + c) x) B := by
  have hT := h.t
  have hV := h.v
  obtain ⟨e1, e2, e3, e4, e5, e6, e7, e8, e9⟩ := h
  obtain ⟨n1, n2, n3⟩ := uk_tN (m := m) (x := x) (k := 57 + 5 * t + c) (by omega)
  have u : ∀ j, j ≠ 57 + 5 * t + c → uk m (57 + 5 * t + c) x j = m j := fun j hj => uk_ne hj
  unfold Inv
  rw [n1, n2, n3, u 3 (by omega), u 4 (by omega), u 0 (by omega), u 5 (by omega), u 7 (by omega), u 8 (by omega)]
  refine ⟨e1, e2, e3, e4, e5, e6, fun t2 ht2 => ?_, fun v hv => ?_, fun a ha => ?_⟩
  · rw [u _ (by omega), u _ (by omega), u _ (by omega), u _ (by omega), u _ (by omega)]; exact e7 t2 ht2
  · have g : ∀ c2, c2 < 5 → uk m (57 + 5 * t + c) x (57 + 5 * v + c2) = if v = t ∧ c2 = c then x else m (57 + 5 * v + c2) := fun c2 h2 => by
      by_cases e : v = t ∧ c2 = c
      · rw [if_pos e, e.1, e.2, uk_eq]
      · rw [if_neg e, uk_ne (by omega)]
    rw [g 1 (by decide), g 4 (by decide)]
    obtain ⟨f1, f2⟩ := e8 v hv
    by_cases et : v = t
    · rcases ok with rfl | ⟨rfl, hx⟩ | rfl | rfl | ⟨rfl, hx⟩ <;> simp [et] at * <;> simp [*]
    · simp [et]
      exact ⟨f1, f2⟩
  · rw [u _ (by omega)]; exact e9 a ha
theorem setThingC (hk : kd q = 4) {t c : Nat} (ht : t < 9) (hc : c < 5) : f_X4_setThing M q (nI t) (nI c) x = sI M (q + 1) (t * 5 + c) x := by
  unfold f_X4_setThing
  rw [l_5, nI_mulI, nI_add, put_nI (lnM hk).1 (by omega)]
theorem setVisitorC (hk : kd q = 4) {t c : Nat} (ht : t < 10) (hc : c < 5) : f_X4_setVisitor M q (nI t) (nI c) x = sI M (q + 2) (t * 5 + c) x := by
  unfold f_X4_setVisitor
  rw [l_5, nI_mulI, nI_add, put_nI (lnM hk).2.1 (by omega)]
/-- one number of a thing set on both sides -/
theorem RR_setT0 (HL : LSpec LR LK) (h : RR LR n Mc Mr) {t c : Nat} (ht : t < 9) (hc : c < 5) (ok : okT c x) : RR LR n (sI Mc (Mc.2.2 1 3 + 1) (t * 5 + c) x) (sI Mr 110 (12 + 5 * t + c) x) := by
  obtain ⟨hk, hkL, hM, hI, hR⟩ := h.cur
  refine RR_now0 HL h (fun i h1 h2 h3 h4 h5 h6 => sI_fn (by omega)) ⟨rfl, rfl⟩ ⟨rfl, rfl, rfl, fun k hk => by rw [sI_at, if_neg (by omega)]⟩ ?_ ?_ ?_
  · rw [uk_110, show 12 + 5 * t + c = 12 + (t * 5 + c) by omega]
    exact hM.ukT hk (by omega)
  · rw [uk_110]
    exact hI.ukT ht hc ok
  · rw [uk_110]
    exact eqL_uk (by omega) (by omega)
theorem RR_setT (HL : LSpec LR LK) (h : RR LR n Mc Mr) {t c : Nat} (ht : t < 9) (hc : c < 5) (ok : okT c x) : RR LR (n + 1) (sI Mc (Mc.2.2 1 3 + 1) (t * 5 + c) x) (sI Mr 110 (12 + 5 * t + c) x) := RR_succ (RR_setT0 HL h ht hc ok)
theorem RR_setV0 (HL : LSpec LR LK) (h : RR LR n Mc Mr) {t c : Nat} (ht : t < 10) (hc : c < 5) (ok : okW c x) : RR LR n (sI Mc (Mc.2.2 1 3 + 2) (t * 5 + c) x) (sI Mr 110 (57 + 5 * t + c) x) := by
  obtain ⟨hk, hkL, hM, hI, hR⟩ := h.cur
  refine RR_now0 HL h (fun i h1 h2 h3 h4 h5 h6 => sI_fn (by omega)) ⟨rfl, rfl⟩ ⟨rfl, rfl, rfl, fun k hk => by rw [sI_at, if_neg (by omega)]⟩ ?_ ?_ ?_
  · rw [uk_110, show 57 + 5 * t + c = 57 + (t * 5 + c) by omega]
    exact hM.ukV hk (by omega)
  · rw [uk_110]
    exact hI.ukV ht hc ok
  · rw [uk_110]
    exact eqL_uk (by omega) (by omega)
theorem RR_setV (HL : LSpec LR LK) (h : RR LR n Mc Mr) {t c : Nat} (ht : t < 10) (hc : c < 5) (ok : okW c x) : RR LR (n + 1) (sI Mc (Mc.2.2 1 3 + 2) (t * 5 + c) x) (sI Mr 110 (57 + 5 * t + c) x) := RR_succ (RR_setV0 HL h ht hc ok)
end REM2
