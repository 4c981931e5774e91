/-! trade -/
section TRADE
variable {LR : Mm → Nat → (Nat → Int32) → Prop} {LK : (Nat → Int32) → Nat → Nat → Int32 → Int32} {n : Nat} {M N Mc Mr Nc Nr : Mm} {q L B a b c : Nat} {m m2 : Nat → Int32} {x x1 x2 x3 x4 x5 : Int32}
def twC (q a b i : Nat) (M : Mm) : Mm := sI (sI M (q + 2) (a * 5 + i) (M.1 (q + 2) (b * 5 + i))) (q + 2) (b * 5 + i) (M.1 (q + 2) (a * 5 + i))
def twR (a b i : Nat) (M : Mm) : Mm := sI (sI M 110 (57 + 5 * a + i) (M.1 110 (57 + 5 * b + i))) 110 (57 + 5 * b + i) (M.1 110 (57 + 5 * a + i))
theorem twoC (hk : kd q = 4) (ha : a < 10) (hb : b < 10) : f_X4_swapVisitors M q (nI a) (nI b) = some (iter (twC q a b) 5 M) := by
  have g : ∀ (K : Mm) {j i : Nat}, j < 10 → i < 5 → f_X4_ofVisitor K q (nI j) (nI i) = K.1 (q + 2) (j * 5 + i) := fun K j i h1 h2 => by
    unfold f_X4_ofVisitor
    rw [l_5, nI_mulI, nI_add, at_nI (lnM hk).2.1 (by omega)]
  unfold f_X4_swapVisitors
  have : loop FU (fun a_4 => f_X4_swapVisitors_L2 a_4.1 q (nI a) (nI b) a_4.2) (M, 0) = some (iter (twC q a b) 5 M) := by
    refine lpI (fun i (K : Mm) => (K, nI i)) 5 (twC q a b) id (by decide) M rfl (fun i K hi => ?_) (fun K => ?_)
    · show f_X4_swapVisitors_L2 K q (nI a) (nI b) (nI i) = _
      unfold f_X4_swapVisitors_L2
      rw [if_neg (show ¬ (5 : Int32) ≤ nI i by rw [l_5, nI_leI (by omega) (by omega)]; omega), g K ha hi, g K hb hi, Option.bind_some, setVisitorC hk ha hi, Option.bind_some, setVisitorC hk hb hi, Option.bind_some, l_1, nI_add]
      rfl
    · show f_X4_swapVisitors_L2 K q (nI a) (nI b) (nI 5) = _
      unfold f_X4_swapVisitors_L2
      rw [if_pos (by decide)]
      rfl
  rw [this]; rfl
theorem twoR (ha : a < 10) (hb : b < 10) : loop FU (fun a_8 => f_X10_trade_L48 a_8.1 (nI a) (nI b) a_8.2) (M, 0) = some (iter (twR a b) 5 M) := by
  refine lpI (fun i (K : Mm) => (K, nI i)) 5 (twR a b) id (by decide) M rfl (fun i K hi => ?_) (fun K => ?_)
  · show f_X10_trade_L48 K (nI a) (nI b) (nI i) = _
    unfold f_X10_trade_L48
    rw [if_neg (show ¬ (5 : Int32) ≤ nI i by rw [l_5, nI_leI (by omega) (by omega)]; omega), ofOneR ha hi, Option.bind_some, ofOneR hb hi, Option.bind_some, show (57 : Int32) + 5 * nI a + nI i = nI (57 + 5 * a + i) from ix5 (b := 57), if_pos (ib807 (by omega)), sA110 (by omega), Option.bind_some, show (57 : Int32) + 5 * nI b + nI i = nI (57 + 5 * b + i) from ix5 (b := 57), if_pos (ib807 (by omega)), sA110 (by omega), Option.bind_some, l_1, nI_add]
    rfl
  · show f_X10_trade_L48 K (nI a) (nI b) (nI 5) = _
    unfold f_X10_trade_L48
    rw [if_pos (by decide)]
    rfl
theorem two_RR (HL : LSpec LR LK) (h : RR LR n Mc Mr) (ha : a < vN (Mr.1 110)) (hb : b < vN (Mr.1 110)) : ∀ i, i ≤ 5 → RR LR n (iter (twC (Mc.2.2 1 3) a b) i Mc) (iter (twR a b) i Mr) ∧ (iter (twC (Mc.2.2 1 3) a b) i Mc).2.2 1 = Mc.2.2 1 ∧ vN ((iter (twR a b) i Mr).1 110) = vN (Mr.1 110) ∧ (iter (twR a b) i Mr).1 109 = Mr.1 109 := by
  intro i
  induction i with
  | zero => intro _; exact ⟨h, rfl, rfl, rfl⟩
  | succ i ih =>
    intro hi
    obtain ⟨r1, r2, r3, r4⟩ := ih (by omega)
    show RR LR n (twC (Mc.2.2 1 3) a b i (iter (twC (Mc.2.2 1 3) a b) i Mc)) (twR a b i (iter (twR a b) i Mr)) ∧ (twC (Mc.2.2 1 3) a b i (iter (twC (Mc.2.2 1 3) a b) i Mc)).2.2 1 = Mc.2.2 1 ∧ vN ((twR a b i (iter (twR a b) i Mr)).1 110) = vN (Mr.1 110) ∧ (twR a b i (iter (twR a b) i Mr)).1 109 = Mr.1 109
    generalize iter (twC (Mc.2.2 1 3) a b) i Mc = N at *
    generalize iter (twR a b) i Mr = K at *
    obtain ⟨hk, hkL, hM, hI, hR⟩ := r1.cur
    have hV := hI.v
    have q0 : N.2.2 1 3 = Mc.2.2 1 3 := by rw [r2]
    have ga : N.1 (Mc.2.2 1 3 + 2) (a * 5 + i) = K.1 110 (57 + 5 * a + i) := by
      rw [← q0, hM.2.1 _ (by omega), show 57 + (a * 5 + i) = 57 + 5 * a + i by omega]
    have gb : N.1 (Mc.2.2 1 3 + 2) (b * 5 + i) = K.1 110 (57 + 5 * b + i) := by
      rw [← q0, hM.2.1 _ (by omega), show 57 + (b * 5 + i) = 57 + 5 * b + i by omega]
    have ok : ∀ u, u < vN (K.1 110) → okW i (K.1 110 (57 + 5 * u + i)) := fun u hu => by
      obtain ⟨f1, f2⟩ := hI.2.2.2.2.2.2.2.1 u hu
      have : i = 0 ∨ i = 1 ∨ i = 2 ∨ i = 3 ∨ i = 4 := by omega
      rcases this with rfl | rfl | rfl | rfl | rfl
      · exact Or.inl rfl
      · exact Or.inr (Or.inl ⟨rfl, f1⟩)
      · exact Or.inr (Or.inr (Or.inl rfl))
      · exact Or.inr (Or.inr (Or.inr (Or.inl rfl)))
      · exact Or.inr (Or.inr (Or.inr (Or.inr ⟨rfl, f2⟩)))
    have s1 := RR_setV0 HL r1 (t := a) (c := i) (x := K.1 110 (57 + 5 * b + i)) (by omega) (by omega) (ok b (by omega))
    have s2 := RR_setV0 HL s1 (t := b) (c := i) (x := K.1 110 (57 + 5 * a + i)) (by omega) (by omega) (ok a (by omega))
    have s2' : RR LR n (sI (sI N (N.2.2 1 3 + 2) (a * 5 + i) (K.1 110 (57 + 5 * b + i))) (N.2.2 1 3 + 2) (b * 5 + i) (K.1 110 (57 + 5 * a + i))) (twR a b i K) := s2
    rw [q0] at s2'
    unfold twC
    rw [ga, gb]
    refine ⟨s2', r2, ?_, ?_⟩
    · show vN ((sI (sI K 110 _ _) 110 _ _).1 110) = _
      unfold vN
      rw [sI_at, if_neg (by omega), sI_at, if_neg (by omega)]
      exact r3
    · show (sI (sI K 110 _ _) 110 _ _).1 109 = _
      rw [sI_fn (by decide), sI_fn (by decide)]
      exact r4
theorem s_13 (HL : LSpec LR LK) (h : RR LR n Mc Mr) : ∃ Nc Nr, so_13 x1 x2 x3 x4 x5 Mc Mr Nc Nr ∧ RR LR (n + 1) Nc Nr := by
  have bad1 : (f_X9_trade Mc x1 x2 = some (.inr (2, Mc)) ∧ f_X10_trade Mr x1 x2 = some (sI Mr 109 0 1)) → ∃ Nc Nr, so_13 x1 x2 x3 x4 x5 Mc Mr Nc Nr ∧ RR LR (n + 1) Nc Nr := fun ⟨h1, h2⟩ =>
    ⟨Mc, sI Mr 109 0 1, ⟨_, h1, h2, Or.inr ⟨2, rfl, by rw [t0]; rfl, by rw [t0]; decide⟩⟩, RR_q HL h KpC.rf ⟨rfl, rfl⟩ KpR.t⟩
  rcases needV h x1 with ⟨a, a1, rfl, n1, n2⟩ | ⟨n1, n2⟩
  · rcases needV h x2 with ⟨b, b1, rfl, n3, n4⟩ | ⟨n3, n4⟩
    · by_cases e : a = b
      · subst e
        refine ⟨Mc, sI Mr 109 0 2, ⟨.inr (1, Mc), ?_, ?_, Or.inr ⟨1, rfl, by rw [t0]; rfl, by rw [t0]; decide⟩⟩, RR_q HL h KpC.rf ⟨rfl, rfl⟩ KpR.t⟩
        · unfold f_X9_trade
          rw [n1, Option.bind_some, Sum.elim_inl, n1, Option.bind_some, Sum.elim_inl, if_pos rfl]
        · unfold f_X10_trade f_X10_trade_J31
          rw [n2, Option.bind_some, if_pos rfl, Option.bind_some, if_pos rfl, if_pos rfl, Option.bind_some, t0, if_neg (by decide)]
      · obtain ⟨Nc, Nr, r1, r2, r3, r4, r5, r6⟩ := remCR HL (RR_t HL h 0)
        obtain ⟨hk, hkL, hM, hI, hR⟩ := r3.cur
        have e110 : Nr.1 110 = Mr.1 110 := r4.trans (sI_fn (by decide))
        have hV := h.cur.2.2.2.1.v
        have ne : ¬ nI a = nI b := by rw [nI_eq (by omega) (by omega)]; exact e
        obtain ⟨w1, w2, w3, w4⟩ := two_RR HL r3 (a := a) (b := b) (by rw [e110]; exact a1) (by rw [e110]; exact b1) 5 (Nat.le_refl _)
        refine ⟨_, _, ⟨.inl (iter (twC (Nc.2.2 1 3) a b) 5 Nc), ?_, ?_, Or.inl ⟨rfl, ?_⟩⟩, RR_succ w1⟩
        · unfold f_X9_trade
          rw [n1, Option.bind_some, Sum.elim_inl, n3, Option.bind_some, Sum.elim_inl, if_neg ne, r1, Option.bind_some, Option.bind_some, show gR Nc 1 3 = Nc.2.2 1 3 from rfl, if_pos hk, twoC hk (by omega) (by omega), Option.bind_some]
        · unfold f_X10_trade f_X10_trade_J31
          rw [n2, Option.bind_some, if_pos rfl, n4, Option.bind_some, if_pos rfl, if_neg ne, Option.bind_some, t0, if_pos (by decide), r2, Option.bind_some, twoR (by omega) (by omega)]
          rfl
        · show (iter (twR a b) 5 Nr).1 109 0 = 0
          rw [w4, r5]; exact t0
    · refine bad1 ⟨?_, ?_⟩
      · unfold f_X9_trade
        rw [n1, Option.bind_some, Sum.elim_inl, n3, Option.bind_some, Sum.elim_inr]
      · unfold f_X10_trade f_X10_trade_J17 f_X10_trade_J31
        rw [n2, Option.bind_some, if_pos rfl, n4, Option.bind_some, if_neg (by decide), Option.bind_some, t0, if_neg (by decide)]
  · refine bad1 ⟨?_, ?_⟩
    · unfold f_X9_trade
      rw [n1, Option.bind_some, Sum.elim_inr]
    · unfold f_X10_trade f_X10_trade_J17 f_X10_trade_J31
      rw [n2, Option.bind_some, if_neg (by decide), Option.bind_some, t0, if_neg (by decide)]
end TRADE
