/-! right -/
section RIGHT
variable {LR : Mm → Nat → (Nat → Int32) → Prop} {LK : (Nat → Int32) → Nat → Nat → Int32 → Int32} {n : Nat} {M N K Mc Mr Nc Nr : Mm} {q L B v t a b : Nat} {m m0 : Nat → Int32} {x y x1 x2 x3 x4 x5 : Int32} {dr : Bool}
def lkd (lk : Nat → Int32) (f : Nat → Option Nat) (t n : Nat) : Int32 := iter (fun v s => if f v = some t then s + lk v else s) n 0
theorem lkd_more {lk : Nat → Int32} {f : Nat → Option Nat} {V : Nat} (h : ∀ v t, f v = some t → v < V) : ∀ k, V ≤ k → lkd lk f t k = lkd lk f t V := by
  intro k
  induction k with
  | zero => intro hk; rw [show V = 0 by omega]
  | succ k ih =>
    intro hk
    by_cases e : V = k + 1
    · rw [e]
    · have h1 : ¬ f k = some t := fun e2 => by have := h k t e2; omega
      show (if f k = some t then lkd lk f t k + lk k else lkd lk f t k) = _
      rw [if_neg h1]
      exact ih (by omega)
theorem likedC {f : Nat → Option Nat} {lk : Nat → Int32} {V : Nat} (hV : V ≤ 10) (h : ∀ v, v < 10 → M.1 85 v = oI (f v)) (hb : ∀ v t, f v = some t → v < V ∧ t < 2 ^ 31) (ht : t < 9) (h83 : ∀ v, v < V → M.1 83 (t * 10 + v) = lk v) : f_X6_likedBy M (nI t) = some (lkd lk f t 10) := by
  unfold f_X6_likedBy
  have : loop FU (fun a_2 => f_X6_likedBy_L4 M (nI t) a_2.1 a_2.2) (0, 0) = some (lkd lk f t 10) := by
    refine lpI (fun v (s : Int32) => (s, nI v)) 10 (fun v s => if f v = some t then s + lk v else s) id (by omega) 0 rfl (fun v s hv => ?_) (fun s => ?_)
    · show f_X6_likedBy_L4 M (nI t) s (nI v) = _
      unfold f_X6_likedBy_L4
      rw [if_neg (show ¬ (10 : Int32) ≤ nI v by rw [l_10, nI_leI (by omega) (by omega)]; omega), a85 hv, h v hv, show nI v + 1 = nI (v + 1) from by rw [l_1, nI_add]]
      have e := oI_eq (o := f v) (t := t) (fun u hu => (hb v u hu).2) (by omega)
      by_cases c : f v = some t
      · rw [if_pos (by rw [e]; exact c), if_pos c]
        unfold f_X6_likes
        rw [l_10, nI_mulI, nI_add, a83 (by omega), h83 v (hb v t c).1, Option.bind_some]
      · rw [if_neg (by rw [e]; exact c), if_neg c]
    · show f_X6_likedBy_L4 M (nI t) s (nI 10) = _
      unfold f_X6_likedBy_L4
      rw [if_pos (by decide)]; rfl
  rw [this]; rfl
theorem likedR {f : Nat → Option Nat} {lk : Nat → Int32} {V : Nat} (hV : V ≤ 10) (h4 : M.1 110 4 = nI V) (h : ∀ v, v < 10 → M.1 117 v = oI (f v)) (hb : ∀ v t, f v = some t → v < V ∧ t < 2 ^ 31) (ht : t < 9) (h116 : ∀ v, v < V → M.1 116 (10 * t + v) = lk v) (y2 y3 y4 y5 y6 : Int32) : loop FU (fun a_8 => f_X10_right_L79 M (nI t) y2 y3 y4 y5 y6 a_8.1 a_8.2) (0, 0) = some (lkd lk f t V) := by
  have i4 : ibs (4 : Int32) 807 = true := by decide
  refine lpI (fun v (s : Int32) => (s, nI v)) V (fun v s => if f v = some t then s + lk v else s) id (by omega) 0 rfl (fun v s hv => ?_) (fun s => ?_)
  · show f_X10_right_L79 M (nI t) y2 y3 y4 y5 y6 s (nI v) = _
    unfold f_X10_right_L79
    rw [if_pos i4, show gA M 110 4 = nI V from h4, if_neg (by rw [nI_leI (by omega) (by omega)]; omega), if_pos (ibs_nI (by omega) (by decide)), show gA M 117 (nI v) = oI (f v) from (gA_nI (by omega)).trans (h v (by omega)), show nI v + 1 = nI (v + 1) from by rw [l_1, nI_add]]
    have e := oI_eq (o := f v) (t := t) (fun u hu => (hb v u hu).2) (by omega)
    by_cases c : f v = some t
    · rw [if_pos (by rw [e]; exact c), if_pos c, show (10 : Int32) * nI t + nI v = nI (10 * t + v) from by rw [l_10, nI_mulI, nI_add], if_pos (ibs_nI (by omega) (by decide)), gA_nI (by omega), h116 v hv, Option.bind_some]
    · rw [if_neg (by rw [e]; exact c), if_neg c, Int32.add_zero]
  · show f_X10_right_L79 M (nI t) y2 y3 y4 y5 y6 s (nI V) = _
    unfold f_X10_right_L79
    rw [if_pos i4, show gA M 110 4 = nI V from h4, if_pos (by rw [nI_leI (by omega) (by omega)]; omega)]; rfl
/-- the row with another hold -/
def hdM (m : Nat → Int32) (t : Nat) (x : Int32) : Nat → Int32 := uk m (12 + 5 * t + 1) x
theorem hdM_ne {k : Nat} (h : k ≠ 12 + 5 * t + 1) : hdM m t x k = m k := uk_ne h
theorem hdM_n : tN (hdM m t x) = tN m ∧ vN (hdM m t x) = vN m := by
  unfold tN vN
  rw [hdM_ne (by omega), hdM_ne (by omega)]
  exact ⟨rfl, rfl⟩
theorem hdM_L (ht : t < 9) : eqL m (hdM m t x) := ⟨hdM_ne (by omega), hdM_ne (by omega), fun k h1 h2 => hdM_ne (by omega)⟩
theorem hdM_inv (hI : Inv m B) (ht : t < 9) {z : Nat} (hz : z ≤ 99) : Inv (hdM m t (nI z)) B := hI.ukT (c := 1) ht (by decide) (Or.inr (Or.inl ⟨rfl, isN_nI hz (by decide)⟩))
theorem hdM_lk (HL : LSpec LR LK) (ht : t < 9) (u v : Nat) : lkv LK (hdM m t x) u v = lkv LK m u v := by
  unfold lkv
  rw [hdM_ne (k := 57 + 5 * v + 4) (by omega)]
  exact HL.2.2.1 _ _ _ _ _ (hdM_L ht) (hdM_ne (by omega)) (fun c hc => hdM_ne (by omega)) (hdM_ne (by omega)) (hdM_ne (by omega))
def lkw (LK : (Nat → Int32) → Nat → Nat → Int32 → Int32) (m : Nat → Int32) (t h : Nat) : Int32 := lkd (fun v => lkv LK m t v) (S0 LK (hdM m t (nI h))).1 t (vN m)
def rtS (LK : (Nat → Int32) → Nat → Nat → Int32 → Int32) (m : Nat → Int32) (t n : Nat) : Int32 × Int32 := iter (fun h s => if lkw LK m t h ≤ s.1 then s else (lkw LK m t h, nI h)) n (-1, 0)
theorem rtS_succ {i : Nat} : rtS LK m t (i + 1) = if lkw LK m t i ≤ (rtS LK m t i).1 then rtS LK m t i else (lkw LK m t i, nI i) := rfl
theorem rightC (HL : LSpec LR LK) (h : RR LR n Mc Mr) (ht : t < tN (Mr.1 110)) (h0 : MR M (Mc.2.2 1 4) (Mr.1 110)) (hF0 : Fr [Mc.2.2 1 4, Mc.2.2 1 4 + 1, Mc.2.2 1 4 + 2, Mc.2.2 1 4 + 3, Mc.2.2 1 5 + 5, 83, 84, 85, 86] Mc M) (h83 : ∀ t v, t < tN (Mr.1 110) → v < vN (Mr.1 110) → M.1 83 (t * 10 + v) = lkv LK (Mr.1 110) t v) (y : Int32) : Tr (loop FU (fun a_16 => f_X9_right_L39 a_16.1 (nI t) y a_16.2.1 a_16.2.2.1 a_16.2.2.2) (M, (-1), 0, 0)) (fun r => r.2 = rtS LK (Mr.1 110) t 100 ∧ Fr [Mc.2.2 1 4, Mc.2.2 1 4 + 1, Mc.2.2 1 4 + 2, Mc.2.2 1 4 + 3, Mc.2.2 1 5 + 5, 83, 84, 85, 86] Mc r.1) := by
  obtain ⟨hk, hkL, hMM, hI, hR⟩ := h.cur
  have k2 := h.1.2.1
  have m2 := md4 k2
  have l1 := (lnL hkL).2.2.2.2.2
  have hT := hI.t
  have hV := hI.v
  refine lp0 (fun i (N : Mm) => (N, (rtS LK (Mr.1 110) t i).1, (rtS LK (Mr.1 110) t i).2, nI i)) 100 (fun i N => (∃ x, MR N (Mc.2.2 1 4) (hdM (Mr.1 110) t x)) ∧ Fr [Mc.2.2 1 4, Mc.2.2 1 4 + 1, Mc.2.2 1 4 + 2, Mc.2.2 1 4 + 3, Mc.2.2 1 5 + 5, 83, 84, 85, 86] Mc N ∧ ∀ t v, t < tN (Mr.1 110) → v < vN (Mr.1 110) → N.1 83 (t * 10 + v) = lkv LK (Mr.1 110) t v) (by omega) M rfl ⟨⟨(Mr.1 110) (12 + 5 * t + 1), by unfold hdM; rw [uk_self rfl]; exact h0⟩, hF0, h83⟩ (fun i N hi hP => ?_) (fun N hP => ?_)
  · obtain ⟨⟨x, hN⟩, hF, g83⟩ := hP
    show Tr (f_X9_right_L39 N (nI t) y (rtS LK (Mr.1 110) t i).1 (rtS LK (Mr.1 110) t i).2 (nI i)) _
    have g : ∀ N, Fr [Mc.2.2 1 4, Mc.2.2 1 4 + 1, Mc.2.2 1 4 + 2, Mc.2.2 1 4 + 3, Mc.2.2 1 5 + 5, 83, 84, 85, 86] Mc N → gR N 1 4 = Mc.2.2 1 4 := fun N hF => by
      show N.2.2 1 4 = _
      rw [(hF 1 (by simp; omega)).2.2]
    have u2 : MR (sI N (Mc.2.2 1 4 + 1) (t * 5 + 1) (nI i)) (Mc.2.2 1 4) (hdM (Mr.1 110) t (nI i)) := by
      have := hN.ukT (x := nI i) k2 (show t * 5 + 1 < 45 by omega)
      rw [show 12 + (t * 5 + 1) = 12 + 5 * t + 1 by omega] at this
      unfold hdM at this ⊢
      rw [uk_uk] at this
      exact this
    have F1 : Fr [Mc.2.2 1 4, Mc.2.2 1 4 + 1, Mc.2.2 1 4 + 2, Mc.2.2 1 4 + 3, Mc.2.2 1 5 + 5, 83, 84, 85, 86] Mc (sI N (Mc.2.2 1 4 + 1) (t * 5 + 1) (nI i)) := hF.tr (Fr.sI (by simp))
    have hI2 : Inv (hdM (Mr.1 110) t (nI i)) (500 * n) := hdM_inv hI (by omega) (by omega)
    have en := hdM_n (m := Mr.1 110) (t := t) (x := nI i)
    obtain ⟨N2, w1, w2, w3⟩ := listenC k2 u2 hI2 (lkv LK (hdM (Mr.1 110) t (nI i))) (fun t' v a b => by
      rw [sI_fn (by omega), hdM_lk HL (by omega)]
      rw [en.1] at a
      rw [en.2] at b
      exact g83 t' v a b)
    have M2 : MR N2 (Mc.2.2 1 4) (hdM (Mr.1 110) t (nI i)) := u2.fr (fun j h1 h2 => (w2 j (by simp; omega)).1)
    have F2 := F1.tr (w2.mono (S2 := [Mc.2.2 1 4, Mc.2.2 1 4 + 1, Mc.2.2 1 4 + 2, Mc.2.2 1 4 + 3, Mc.2.2 1 5 + 5, 83, 84, 85, 86]) (by simp))
    have e83 : N2.1 83 = N.1 83 := by rw [(w2 83 (by simp)).1, sI_fn (by omega)]
    obtain ⟨r, z1, z2, z3, z4, z5⟩ := leadC2 HL k2 M2 hI2 false (fun t' v a b => by
      rw [e83, hdM_lk HL (by omega)]
      rw [en.1] at a
      rw [en.2] at b
      exact g83 t' v a b) w3
    have z4 : Fr [85, 86] N2 r.2 := z4
    have z5 : ∀ v, v < 10 → r.2.1 85 v = oI ((S0 LK (hdM (Mr.1 110) t (nI i))).1 v) := z5
    have hinv := (S0_inv (LK := LK) (m := hdM (Mr.1 110) t (nI i))).1
    rw [en.1, en.2] at hinv
    have M3 : MR r.2 (Mc.2.2 1 4) (hdM (Mr.1 110) t (nI i)) := M2.fr (fun j h1 h2 => (z4 j (by simp; omega)).1)
    have F3 := F2.tr (z4.mono (S2 := [Mc.2.2 1 4, Mc.2.2 1 4 + 1, Mc.2.2 1 4 + 2, Mc.2.2 1 4 + 3, Mc.2.2 1 5 + 5, 83, 84, 85, 86]) (by simp))
    have r83 : r.2.1 83 = N.1 83 := by rw [(z4 83 (by simp)).1, e83]
    have hl : f_X6_likedBy r.2 (nI t) = some (lkw LK (Mr.1 110) t i) := by
      rw [likedC (lk := fun v => lkv LK (Mr.1 110) t v) (V := vN (Mr.1 110)) hV.2 z5 (fun v u hu => ⟨(hinv v u hu).1, by have := (hinv v u hu).2; omega⟩) (by omega) (fun v hv => by rw [r83]; exact g83 t v ht hv)]
      congr 1
      exact lkd_more (fun v u hu => (hinv v u hu).1) 10 hV.2
    unfold f_X9_right_L39
    rw [if_neg (show ¬ (100 : Int32) ≤ nI i by rw [show (100 : Int32) = nI 100 from rfl, nI_leI (by omega) (by omega)]; omega), Option.bind_some, g N hF, if_pos k2, show f_X4_setThing N (Mc.2.2 1 4) (nI t) 1 (nI i) = _ from setThingC (c := 1) k2 (by omega) (by decide), Option.bind_some, Option.bind_some, g _ F1, if_pos k2, w1, Option.bind_some, Option.bind_some, g _ F2, if_pos k2, show f_X6_lead N2 (Mc.2.2 1 4) 0 = _ from z1, Option.bind_some, hl, Option.bind_some, rtS_succ, show nI i + 1 = nI (i + 1) from by rw [l_1, nI_add]]
    by_cases c : lkw LK (Mr.1 110) t i ≤ (rtS LK (Mr.1 110) t i).1
    · rw [if_pos c, if_pos c]
      exact Tr.some (Or.inl ⟨r.2, rfl, ⟨_, M3⟩, F3, fun t' v a b => by rw [r83]; exact g83 t' v a b⟩)
    · rw [if_neg c, if_neg c]
      exact Tr.some (Or.inl ⟨r.2, rfl, ⟨_, M3⟩, F3, fun t' v a b => by rw [r83]; exact g83 t' v a b⟩)
  · generalize rtS LK (Mr.1 110) t 100 = S
    show Tr (f_X9_right_L39 N (nI t) y S.1 S.2 (nI 100)) _
    unfold f_X9_right_L39
    rw [if_pos (by decide)]
    exact Tr.some ⟨_, rfl, rfl, hP.2.1⟩
theorem rightR (HL : LSpec LR LK) (hI : Inv m B) (h0 : M.1 110 = m) (ht : t < tN m) (h116 : ∀ t v, t < tN m → v < vN m → M.1 116 (10 * t + v) = lkv LK m t v) (y2 y3 : Int32) : Tr (loop FU (fun a_9 => f_X10_right_L46 a_9.1 (nI t) y2 y3 a_9.2.1 a_9.2.2.1 a_9.2.2.2) (M, 0, (-1), 0)) (fun r => r.2 = ((rtS LK m t 100).2, (rtS LK m t 100).1) ∧ (∃ x, r.1.1 110 = hdM m t x) ∧ Fr [110, 117, 118, 119] M r.1) := by
  have hT := hI.t
  have hV := hI.v
  refine lp0 (fun i (N : Mm) => (N, (rtS LK m t i).2, (rtS LK m t i).1, nI i)) 100 (fun i N => (∃ x, N.1 110 = hdM m t x) ∧ Fr [110, 117, 118, 119] M N) (by omega) M rfl ⟨⟨m (12 + 5 * t + 1), by unfold hdM; rw [uk_self rfl]; exact h0⟩, Fr.rf⟩ (fun i N hi hP => ?_) (fun N hP => ?_)
  · obtain ⟨⟨x, hN⟩, hF⟩ := hP
    show Tr (f_X10_right_L46 N (nI t) y2 y3 (rtS LK m t i).2 (rtS LK m t i).1 (nI i)) _
    have u2 : (sI N 110 (12 + 5 * t + 1) (nI i)).1 110 = hdM m t (nI i) := by
      rw [uk_110, hN]
      unfold hdM
      rw [uk_uk]
    have hI2 : Inv (hdM m t (nI i)) B := hdM_inv hI (by omega) (by omega)
    have en := hdM_n (m := m) (t := t) (x := nI i)
    have F1 : Fr [110, 117, 118, 119] M (sI N 110 (12 + 5 * t + 1) (nI i)) := hF.tr (Fr.sI (by simp))
    obtain ⟨N2, z1, z2, z3, z4⟩ := leadsR2 HL hI2 u2 (fun t' v a b => by
      rw [hdM_lk HL (by omega), (F1 116 (by simp)).1]
      rw [en.1] at a
      rw [en.2] at b
      exact h116 t' v a b) false
    rw [ld_seed0, u9_self] at z2
    have hinv := (S0_inv (LK := LK) (m := hdM m t (nI i))).1
    rw [en.1, en.2] at hinv
    have F2 := F1.tr z3
    have hl : ∀ y4 y5 y6 : Int32, loop FU (fun a_8 => f_X10_right_L79 N2 (nI t) y2 y3 y4 y5 y6 a_8.1 a_8.2) (0, 0) = some (lkw LK m t i) := fun y4 y5 y6 => likedR (lk := fun v => lkv LK m t v) (V := vN m) hV.2 (by rw [z2, hdM_ne (by omega)]; exact hV.1) z4.1 (fun v u hu => ⟨(hinv v u hu).1, by have := (hinv v u hu).2; omega⟩) (by omega) (fun v hv => by rw [(F2 116 (by simp)).1]; exact h116 t v ht hv) y2 y3 y4 y5 y6
    unfold f_X10_right_L46
    rw [if_neg (show ¬ (99 : Int32) < nI i by rw [l_99, nI_ltI (by omega) (by omega)]; omega), show (12 : Int32) + 5 * nI t + 1 = nI (12 + 5 * t + 1) from ix5 (b := 12) (c := 1), if_pos (ib807 (by omega)), sA110 (by omega), Option.bind_some, show f_X10_leads (sI N 110 (12 + 5 * t + 1) (nI i)) 0 = _ from z1, Option.bind_some, hl, Option.bind_some, rtS_succ, show nI i + 1 = nI (i + 1) from by rw [l_1, nI_add]]
    by_cases c : lkw LK m t i ≤ (rtS LK m t i).1
    · rw [if_neg (by rw [Int32.not_lt]; exact c), if_pos c]
      exact Tr.some (Or.inl ⟨N2, rfl, ⟨_, z2⟩, F2⟩)
    · rw [if_pos (by rw [← Int32.not_le]; exact c), if_neg c]
      exact Tr.some (Or.inl ⟨N2, rfl, ⟨_, z2⟩, F2⟩)
  · generalize rtS LK m t 100 = S
    show Tr (f_X10_right_L46 N (nI t) y2 y3 S.2 S.1 (nI 100)) _
    unfold f_X10_right_L46
    rw [if_pos (by decide)]
    exact Tr.some ⟨_, rfl, rfl, hP⟩
theorem s_21 (HL : LSpec LR LK) (h : RR LR n Mc Mr) : ∃ Nc Nr, so_21 x1 x2 x3 x4 x5 Mc Mr Nc Nr ∧ RR LR (n + 1) Nc Nr := by
  rcases needT h x1 with ⟨t, t1, rfl, u1, u2⟩ | ⟨u1, u2⟩
  · obtain ⟨hk, hkL, hMM, hI, hR⟩ := h.cur
    have hT := hI.t
    obtain ⟨k2, k3, N, d1, d2, d3, d4⟩ := drC HL h
    have m2 := md4 k2
    have l1 := (lnL hkL).2.2.2.2.2
    have eN : N.2.2 1 = Mc.2.2 1 := (d3 1 (by simp; omega)).2.2
    obtain ⟨W, w1, w2, w3, w4⟩ := weighC HL k2 hkL d2 hI d4
    have hMW : MR W (Mc.2.2 1 4) (Mr.1 110) := d2.fr (fun j h1 h2 => (w2 j (by simp; omega)).1)
    obtain ⟨p, p1, p2, p3⟩ := rightC HL h t1 hMW ((d3.mono (by simp)).tr (w2.mono (by simp))) w3 (nb x2)
    obtain ⟨A, a1, a2, a3, a4, a5⟩ := qasksR HL h 0
    obtain ⟨g, g1, g2, ⟨gx, g3⟩, g4⟩ := rightR HL hI a4 t1 a5 (nb x2) ((Mr.1 110) (12 + 5 * t + 1))
    have e110 : (sI g.1 110 (12 + 5 * t + 1) ((Mr.1 110) (12 + 5 * t + 1))).1 110 = Mr.1 110 := by
      rw [uk_110, g3]
      unfold hdM
      rw [uk_uk, uk_self rfl]
    have kp : KpR Mr (sI g.1 110 (12 + 5 * t + 1) ((Mr.1 110) (12 + 5 * t + 1))) := a2.tr (KpR.of2 (FrQ.of (g4.tr (Fr.sI (by simp))) (by simp)) (e110.trans a4.symm) (by simp) (by simp) (by simp))
    have z0 : gI (sI g.1 110 (12 + 5 * t + 1) ((Mr.1 110) (12 + 5 * t + 1))) 109 0 = 0 := by
      show (sI g.1 110 _ _).1 109 0 = 0
      rw [sI_fn (by decide), (g4 109 (by simp)).1]; exact a3
    have eo : f_X10_of (sI Mr 109 0 0) (nI t) 1 = some ((Mr.1 110) (12 + 5 * t + 1)) := (ofR (c := 1) (by omega) (by decide)).trans (by rw [sI_fn (by decide)])
    refine ⟨p.1, _, ⟨_, if nb x2 = 0 then (rtS LK (Mr.1 110) t 100).2 else (rtS LK (Mr.1 110) t 100).1, ?_, ?_, Or.inl ⟨rfl, z0⟩⟩, RR_dr HL h p3 kp⟩
    · unfold f_X9_right
      rw [u1, Option.bind_some, Sum.elim_inl, Option.bind_some, show gR Mc 1 4 = Mc.2.2 1 4 from rfl, if_pos k2, Option.bind_some, show gR Mc 1 3 = Mc.2.2 1 3 from rfl, if_pos hk, d1, Option.bind_some, Option.bind_some, show gR N 1 4 = Mc.2.2 1 4 from by show N.2.2 1 4 = _; rw [eN], if_pos k2, Option.bind_some, show gR N 1 5 = Mc.2.2 1 5 from by show N.2.2 1 5 = _; rw [eN], if_pos hkL, w1, Option.bind_some, p1, Option.bind_some, p2]
      by_cases c : nb x2 = 0
      · rw [if_pos c, if_pos c]
      · rw [if_neg c, if_neg c]
    · unfold f_X10_right f_X10_right_J14
      rw [u2, Option.bind_some, if_pos rfl, Option.bind_some, t0, if_pos (by decide), eo, Option.bind_some, a1, Option.bind_some, g1, Option.bind_some, show (12 : Int32) + 5 * nI t + 1 = nI (12 + 5 * t + 1) from ix5 (b := 12) (c := 1), if_pos (ib807 (by omega)), sA110 (by omega), Option.bind_some, g2]
      by_cases c : nb x2 = 0
      · rw [if_pos c, if_pos c]
      · rw [if_neg c, if_neg c]
  · refine ⟨Mc, sI Mr 109 0 1, ⟨_, 0, ?_, ?_, Or.inr ⟨2, rfl, by rw [t0]; rfl, by rw [t0]; decide⟩⟩, RR_q HL h KpC.rf ⟨rfl, rfl⟩ KpR.t⟩
    · unfold f_X9_right
      rw [u1, Option.bind_some, Sum.elim_inr]
    · unfold f_X10_right f_X10_right_J14
      rw [u2, Option.bind_some, if_neg (by decide), Option.bind_some, t0, if_neg (by decide)]
end RIGHT
