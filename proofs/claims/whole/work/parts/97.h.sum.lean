/-! the class reads a sum -/
section LAWH
variable {tx : Nat → Int32} {e i j k r b f c a d n q w L : Nat} {M N K : Mm} {x y s op : Int32} {p out st : List Int32}
/-- the class's law L holds the operations out -/
def PrC (M : Mm) (L : Nat) (out : List Int32) : Prop := M.1 L 5 = nI out.length ∧ ∀ x, x < out.length → M.1 (L + 4) x = out.getD x 0
/-- what reading a condition leaves alone -/
def FrL (L : Nat) (M N : Mm) : Prop := Fr [L, L + 4, 102, 103, 104] M N ∧ ∀ c, c ≠ 5 → N.1 L c = M.1 L c
theorem FrL.rf : FrL L M M := ⟨Fr.rf, fun _ _ => rfl⟩
theorem FrL.tr (h : FrL L M N) (h2 : FrL L N K) : FrL L M K := ⟨h.1.tr h2.1, fun c hc => (h2.2 c hc).trans (h.2 c hc)⟩
theorem FrL.r104 (hL : kd L = 2) (h : Fr [104] M N) : FrL L M N := by
  have := (lnL hL).2.2.2.2.2
  exact ⟨h.mono (by simp), fun c _ => congrFun (h L (by simp; omega)).1 c⟩
theorem PrC.fr (hL : kd L = 2) (h : PrC M L out) (hF : Fr [102, 103, 104] M N) : PrC N L out := by
  have := (lnL hL).2.2.2.2.2
  exact ⟨(congrFun (hF L (by simp; omega)).1 5).trans h.1, fun x hx => (congrFun (hF (L + 4) (by simp; omega)).1 x).trans (h.2 x hx)⟩
theorem addOp (hL : kd L = 2) (h : PrC M L out) (hn : out.length < 400) (op : Int32) : ∃ N, f_X2_addOperation M L op = some N ∧ PrC N L (out ++ [op]) ∧ Fr [L, L + 4] M N ∧ ∀ c, c ≠ 5 → N.1 L c = M.1 L c := by
  obtain ⟨l1, l2, l3, l4, l5, l6, l7, l8⟩ := lnL hL
  unfold f_X2_addOperation
  rw [show gI M L 5 = nI out.length from h.1, put_nI l4 hn, Option.bind_some, show gI (sI M (L + 4) out.length op) L 5 = nI out.length from (by show (sI M (L + 4) out.length op).1 L 5 = _; rw [sI_at, if_neg (by omega)]; exact h.1), l_1, nI_add, Option.bind_some]
  refine ⟨_, rfl, ⟨?_, fun x hx => ?_⟩, (Fr.sI (by simp)).tr (Fr.sI (by simp)), fun c hc => ?_⟩
  · rw [sI_at, if_pos ⟨rfl, rfl⟩, List.length_append]; rfl
  · rw [List.length_append, List.length_singleton] at hx
    rw [sI_at, if_neg (by omega), sI_at]
    by_cases d : x = out.length
    · rw [if_pos ⟨rfl, d⟩, d]
      have := gD_r (l := out) (l2 := [op]) (d := 0) (k := 0)
      rw [Nat.add_zero] at this
      exact this.symm
    · rw [if_neg (by omega), gD_l (by omega)]
      exact h.2 x (by omega)
  · rw [sI_at, if_neg (by omega), sI_at, if_neg (by omega)]
theorem bg_up (he : e ≤ 400) (h : wdT tx e i ≠ 330) : bg tx e i + 1 ≤ bg tx e (i + 1) := by
  have := bg_le (tx := tx) he i
  exact bg_lt he (by
    refine Nat.lt_of_le_of_ne this (fun h2 => h ((wd330 he).mpr h2)))
theorem bg_up2 (he : e ≤ 400) (hj : j < 22) (h : wdT tx e i = 300 + j) : bg tx e i + 2 ≤ bg tx e (i + 1) := by
  have hb := bg_le (tx := tx) he i
  have c2 := (wd_let (tx := tx) he hj (bg tx e i)).mpr h
  have hl := (w_len j (by omega)).1 hj
  have hsm := (samW_iff.mp c2).1
  have htk : tkE tx e (bg tx e i) = lrE tx e (bg tx e i) := by
    rcases wd_cases (tx := tx) he (bg tx e i) with ⟨d1, d2, d3, d4, d5⟩ | ⟨d1, d2, d3, d4, d5, d6⟩ | ⟨d1, d2, d3, d4, d5, d6, d7⟩ | ⟨d1, d2, d3, d4, d5, d6, d7⟩
    · omega
    · exact d6
    · omega
    · omega
  have h1 : bg tx e (i + 1) = sk tx e (tkE tx e (bg tx e i)) := rfl
  have h2 := sk_ge (tx := tx) (p := tkE tx e (bg tx e i)) he
  omega
theorem RdS.frp (h : RdS M 104 tx e i) (hL : kd L = 2) (hF : Fr [L, L + 4] M N) : RdS N 104 tx e i := by
  have := (lnL hL).2.2.2.2.2
  exact h.fr (fun j h1 h2 => ⟨(hF j (by simp; omega)).1, (hF j (by simp; omega)).2.2⟩)
def Fr3 (L : Nat) (M N : Mm) : Prop := Fr [L, L + 4, 104] M N ∧ ∀ c, c ≠ 5 → N.1 L c = M.1 L c
theorem Fr3.rf : Fr3 L M M := ⟨Fr.rf, fun _ _ => rfl⟩
theorem Fr3.tr (h : Fr3 L M N) (h2 : Fr3 L N K) : Fr3 L M K := ⟨h.1.tr h2.1, fun c hc => (h2.2 c hc).trans (h.2 c hc)⟩
theorem Fr3.rd (hL : kd L = 2) (h : Fr [104] M N) : Fr3 L M N := by
  have := (lnL hL).2.2.2.2.2
  exact ⟨h.mono (by simp), fun c _ => congrFun (h L (by simp; omega)).1 c⟩
theorem Fr3.pg (h : Fr [L, L + 4] M N) (h2 : ∀ c, c ≠ 5 → N.1 L c = M.1 L c) : Fr3 L M N := ⟨h.mono (by simp), h2⟩
theorem PrC.f1 (hL : kd L = 2) (h : PrC M L out) (hF : Fr [104] M N) : PrC N L out := h.fr hL (hF.mono (by simp))
theorem r104 (hL : kd L = 2) (hF : Fr [L, L + 4] M N) : N.1 104 = M.1 104 := by
  have := (lnL hL).2.2.2.2.2
  exact (hF 104 (by simp; omega)).1
/-- how the class stands behind a sum, a row of operations -/
def SmC (tx : Nat → Int32) (e L : Nat) (M : Mm) (out : List Int32) (b0 : Nat) (G : GP) (x : Bool × Mm) : Prop := Fr3 L M x.2 ∧ match G with | .inl b => x.1 = false ∧ x.2.1 104 8 = nI (bg tx e b) | .inr (p, j) => x.1 = true ∧ x.2.1 104 8 = M.1 104 8 ∧ PrC x.2 L (out ++ p) ∧ RdS x.2 104 tx e j ∧ (out ++ p).length + b0 ≤ bg tx e j
theorem suC (hL : kd L = 2) (he : e ≤ 400) (h : RdS M 104 tx e i) (hp : PrC M L out) (hb : out.length + b ≤ bg tx e i) (hb1 : 1 ≤ b) : ∃ G, suP tx e 400 [] i = G ∧ Tr (f_X3_readSum M L) (SmC tx e L M out b G) := by
  have hr : rOK 104 := Or.inr rfl
  refine ⟨_, rfl, ?_⟩
  unfold f_X3_readSum
  generalize hG : suP tx e 400 [] i = G
  refine Tr.bind (Q := fun r : (Bool × Mm) ⊕ Mm => Tr (Sum.elim (fun v => some v) (fun e_9 => (some (f_X7_refuse e_9 104)).bind (fun rr11 => some (rr11.1, rr11.2))) r) (SmC tx e L M out b G)) ?_ (fun r hr2 => hr2)
  refine lp0 (fun k (N : Mm) => (N, nI k)) 400 (fun k N => Fr3 L M N ∧ N.1 104 8 = M.1 104 8 ∧ ∃ q i', PrC N L (out ++ q) ∧ RdS N 104 tx e i' ∧ (out ++ q).length + b ≤ bg tx e i' ∧ suP tx e (400 - k) q i' = G) (by decide) M rfl ⟨Fr3.rf, rfl, [], i, by rw [List.append_nil]; exact hp, h, by rw [List.append_nil]; exact hb, hG⟩ (fun k N hk hP => ?_) (fun N hP => ?_)
  · obtain ⟨f1, f2, q, i', g1, g2, g3, g4⟩ := hP
    show Tr (f_X3_readSum_L2 N L (nI k)) _
    have hop : ∀ v2, (if ptq (wdT tx e i') = -1 then ((f_X7_numberWithin N 104 0 999).bind (fun r8 => f_X3_readSum_J2_44 N L v2 r8)) else (f_X3_readSum_J2_44 N L v2 (1000 + ptq (wdT tx e i')))) = f_X3_readSum_J2_44 N L v2 (opA tx e i') := fun v2 => by
      unfold opA
      by_cases c : ptq (wdT tx e i') = -1
      · rw [if_pos c, if_pos c, numWC g2, Option.bind_some]
      · rw [if_neg c, if_neg c]
    have hle := bg_le (tx := tx) he i'
    unfold f_X3_readSum_L2
    rw [if_neg (by rw [show (400 : Int32) = nI 400 from rfl, nI_leI (by omega) (by omega)]; omega), g2.wd.1, Option.bind_some, if_pos isW_wd, hop]
    unfold f_X3_readSum_J2_44
    by_cases c : opA tx e i' = -1
    · rw [suP_bad c] at g4
      rw [if_pos c, refuseC g2, Option.bind_some]
      refine Tr.some (Or.inr ⟨_, rfl, Tr.some ⟨f1.tr (Fr3.rd hL (Fr.sI (by simp))), ?_⟩⟩)
      rw [← g4]
      exact ⟨rfl, by show (sI N 104 8 _).1 104 8 = _; rw [sI_at, if_pos ⟨rfl, rfl⟩]⟩
    · obtain ⟨A, a1, a2, a3, a4⟩ := addOp hL g1 (by omega) (opA tx e i')
      have hne := (opA_o c).2
      have up1 := bg_up he hne
      rw [if_neg c, a1, Option.bind_some]
      refine Tr.bind (nextC hr he (g2.frp hL a3)) (fun B hB => ?_)
      obtain ⟨b1, b2, b3⟩ := hB
      rw [show 400 - k = (400 - (k + 1)) + 1 by omega, suP, if_neg c] at g4
      have fB : Fr3 L M B := (f1.tr (Fr3.pg a3 a4)).tr (Fr3.rd hL b2)
      have eB : B.1 104 8 = M.1 104 8 := b3.trans ((congrFun (r104 hL a3) 8).trans f2)
      have pB : PrC B L (out ++ (q ++ [opA tx e i'])) := by rw [← List.append_assoc]; exact a2.f1 hL b2
      have lB : (out ++ (q ++ [opA tx e i'])).length = (out ++ q).length + 1 := by rw [← List.append_assoc, List.length_append]; rfl
      rcases skipC hr he b1 327 with ⟨c1, x, x1, x2, x3, x4, x5⟩ | ⟨c1, x1⟩
      · rw [if_pos c1] at g4
        have up2 := bg_up he (show wdT tx e (i' + 1) ≠ 330 by rw [c1]; decide)
        rw [x1, Option.bind_some, x2, if_pos rfl, l_1, nI_add]
        refine Tr.some (Or.inl ⟨x.2, rfl, fB.tr (Fr3.rd hL x4), x5.trans eB, q ++ [opA tx e i'], i' + 2, pB.f1 hL x4, x3, ?_, g4⟩)
        have : bg tx e (i' + 1 + 1) = bg tx e (i' + 2) := rfl
        omega
      · rw [if_neg c1] at g4
        rw [x1, Option.bind_some, if_neg (show ¬ false = true by decide)]
        refine Tr.some (Or.inr ⟨_, rfl, Tr.some ⟨fB, ?_⟩⟩)
        rw [← g4]
        exact ⟨rfl, eB, pB, b1, by omega⟩
  · obtain ⟨f1, f2, q, i', g1, g2, g3, g4⟩ := hP
    show Tr (f_X3_readSum_L2 N L (nI 400)) _
    unfold f_X3_readSum_L2
    rw [if_pos (by decide)]
    refine Tr.some ⟨_, rfl, ?_⟩
    show Tr ((some (f_X7_refuse N 104)).bind (fun rr11 => some (rr11.1, rr11.2))) _
    rw [refuseC g2, Option.bind_some]
    refine Tr.some ⟨f1.tr (Fr3.rd hL (Fr.sI (by simp))), ?_⟩
    rw [← g4]
    exact ⟨rfl, by show (sI N 104 8 _).1 104 8 = _; rw [sI_at, if_pos ⟨rfl, rfl⟩]⟩
end LAWH
