/-! rivals; envy; thing -/
section SETS2
variable {LR : Mm → Nat → (Nat → Int32) → Prop} {LK : (Nat → Int32) → Nat → Nat → Int32 → Int32} {n : Nat} {M N Mc Mr Nc Nr : Mm} {q L B a b c : Nat} {m m2 : Nat → Int32} {x x1 x2 x3 x4 x5 : Int32}
theorem s_24 (HL : LSpec LR LK) (h : RR LR n Mc Mr) : ∃ Nc Nr, so_24 x1 x2 x3 x4 x5 Mc Mr Nc Nr ∧ RR LR (n + 1) Nc Nr := by
  have bad1 : (f_X9_rivals Mc x1 x2 = some (.inr (2, Mc)) ∧ f_X10_rivals Mr x1 x2 = some (0, sI Mr 109 0 1)) → ∃ Nc Nr, so_24 x1 x2 x3 x4 x5 Mc Mr Nc Nr ∧ RR LR (n + 1) Nc Nr := fun ⟨h1, h2⟩ =>
    ⟨Mc, sI Mr 109 0 1, ⟨_, 0, h1, h2, Or.inr ⟨2, rfl, by rw [t0]; rfl, by rw [t0]; decide⟩⟩, RR_q HL h KpC.rf ⟨rfl, rfl⟩ KpR.t⟩
  obtain ⟨hk, hkL, hM, hI, hR⟩ := h.cur
  have hT := hI.t
  rcases needT h x1 with ⟨a, a1, rfl, n1, n2⟩ | ⟨n1, n2⟩
  · rcases needT h x2 with ⟨b, b1, rfl, n3, n4⟩ | ⟨n3, n4⟩
    · by_cases e : a = b
      · subst e
        refine ⟨Mc, sI Mr 109 0 2, ⟨.inr (1, Mc), 0, ?_, ?_, Or.inr ⟨1, rfl, by rw [t0]; rfl, by rw [t0]; decide⟩⟩, RR_q HL h KpC.rf ⟨rfl, rfl⟩ KpR.t⟩
        · unfold f_X9_rivals
          rw [n1, Option.bind_some, Sum.elim_inl, n1, Option.bind_some, Sum.elim_inl, if_pos rfl]
        · unfold f_X10_rivals f_X10_rivals_J31
          rw [n2, Option.bind_some, if_pos rfl, Option.bind_some, if_pos rfl, if_pos rfl, Option.bind_some, t0, if_neg (by decide)]
      · have ne : ¬ nI a = nI b := by rw [nI_eq (by omega) (by omega)]; exact e
        obtain ⟨N, c1, c2, c3, c4, c5, c6, c7⟩ := qwghC HL h
        obtain ⟨K, d1, d2, d3, d4, d5⟩ := qasksR HL h 0
        refine ⟨N, K, ⟨_, clr LK (Mr.1 110) a &&& clr LK (Mr.1 110) b, ?_, ?_, Or.inl ⟨rfl, d3⟩⟩, RR_q HL h c2 ⟨c3, c4⟩ d2⟩
        · unfold f_X9_rivals
          rw [n1, Option.bind_some, Sum.elim_inl, n3, Option.bind_some, Sum.elim_inl, if_neg ne, Option.bind_some, show gR Mc 1 3 = Mc.2.2 1 3 from rfl, if_pos hk, Option.bind_some, show gR Mc 1 5 = Mc.2.2 1 5 from rfl, if_pos hkL, c1, Option.bind_some, at_nI (N := 9) (by decide) (by omega), at_nI (N := 9) (by decide) (by omega), c7 a a1, c7 b b1]
        · unfold f_X10_rivals f_X10_rivals_J31
          rw [n2, Option.bind_some, if_pos rfl, n4, Option.bind_some, if_pos rfl, if_neg ne, Option.bind_some, t0, if_pos (by decide), d1, Option.bind_some, ringsForR d4 hI d5 a1, Option.bind_some, ringsForR d4 hI d5 b1, Option.bind_some]
    · refine bad1 ⟨?_, ?_⟩
      · unfold f_X9_rivals
        rw [n1, Option.bind_some, Sum.elim_inl, n3, Option.bind_some, Sum.elim_inr]
      · unfold f_X10_rivals f_X10_rivals_J17 f_X10_rivals_J31
        rw [n2, Option.bind_some, if_pos rfl, n4, Option.bind_some, if_neg (by decide), Option.bind_some, t0, if_neg (by decide)]
  · refine bad1 ⟨?_, ?_⟩
    · unfold f_X9_rivals
      rw [n1, Option.bind_some, Sum.elim_inr]
    · unfold f_X10_rivals f_X10_rivals_J17 f_X10_rivals_J31
      rw [n2, Option.bind_some, if_neg (by decide), Option.bind_some, t0, if_neg (by decide)]
/-- the most that anyone who has a thing likes it, from x -/
def topL (lk : Nat → Int32) (f : Nat → Option Nat) (t : Nat) (x : Int32) (n : Nat) : Int32 := iter (fun v s => if f v = some t then mx s (lk v) else s) n x
def envB (lk : Nat → Int32) (rg : Nat → Bool) (f : Nat → Option Nat) (t : Nat) (x : Int32) (v : Nat) : Bool := (f v).isSome && (decide (¬ f v = some t) && (rg v && decide (¬ lk v ≤ x)))
theorem envC {f : Nat → Option Nat} {lk : Nat → Int32} (h : ∀ v, v < 10 → M.1 85 v = oI (f v)) (hb : ∀ v t, f v = some t → t < 2 ^ 31 ∧ v < c) (hc : c ≤ 10) {t : Nat} (ht : t < 9) {p : Nat → Bool} (h83 : ∀ v, v < c → M.1 83 (t * 10 + v) = lk v) (h84 : M.1 84 t = bset p c) : f_X6_envied M (nI t) = some (bset (envB lk p f t (topL lk f t 0 c)) 10) := by
  have hb1 : ∀ v t, f v = some t → t < 2 ^ 31 := fun v t e => (hb v t e).1
  have lk1 : ∀ v, v < c → f_X6_likes M (nI t) (nI v) = lk v := fun v hv => by
    unfold f_X6_likes
    simp (disch := omega) only [a2, a83, a84, a85, a86, a88, a89, a92, a93, a96, p2, p83, p84, p85, p86, p88, p89, p92, p93, p96, a91, a94, a95, p91, p94, p95, gI, gR, sA_nI, gA_nI, at_nI, put_nI, ibs_nI, nI_add, nI_mulI, nI_subI, nI_neg1, nI_leI, nI_ltI, nI_eq, nI_ne_m1, nI_m1_ne, nI_nlt0, Option.bind_some, bnd_some, iteP, iteN, reduceIte, b1_def, or0, if_true, if_false, eq_self, Bool.false_eq_true, l_0, l_1, l_2, l_3, l_4, l_5, l_6, l_7, l_8, l_9, l_10, l_11, l_12, l_13, l_14, l_15, l_16, l_17, l_18, l_19, l_20, l_24, l_30, l_31, l_40, l_45, l_50, l_57, l_58, l_59, l_60, l_61, l_62, l_63, l_64, l_90, l_99, l_100, l_107, l_108, l_109, l_110, l_111, l_299, l_300, l_400, l_407, l_807, h83]
  have tail : ∀ k, c ≤ k → topL lk f t 0 k = topL lk f t 0 c := by
    intro k
    induction k with
    | zero => intro hk; rw [show c = 0 by omega]
    | succ k ih =>
      intro hk
      by_cases e : c = k + 1
      · rw [e]
      · have hn : ¬ f k = some t := fun e2 => by have := (hb k t e2).2; omega
        show (if f k = some t then mx (topL lk f t 0 k) (lk k) else topL lk f t 0 k) = _
        rw [if_neg hn]
        exact ih (by omega)
  unfold f_X6_envied
  have l1 : loop FU (fun a_2 => f_X6_envied_L4 M (nI t) a_2.1 a_2.2) (0, 0) = some (topL lk f t 0 10) := by
    refine lpI (fun v s => (s, nI v)) 10 (fun v s => if f v = some t then mx s (lk v) else s) id (by omega) 0 rfl (fun v s hv => ?_) (fun s => ?_)
    · unfold f_X6_envied_L4
      simp (disch := omega) only [a2, a83, a84, a85, a86, a88, a89, a92, a93, a96, p2, p83, p84, p85, p86, p88, p89, p92, p93, p96, a91, a94, a95, p91, p94, p95, gI, gR, sA_nI, gA_nI, at_nI, put_nI, ibs_nI, nI_add, nI_mulI, nI_subI, nI_neg1, nI_leI, nI_ltI, nI_eq, nI_ne_m1, nI_m1_ne, nI_nlt0, Option.bind_some, bnd_some, iteP, iteN, reduceIte, b1_def, or0, if_true, if_false, eq_self, Bool.false_eq_true, l_0, l_1, l_2, l_3, l_4, l_5, l_6, l_7, l_8, l_9, l_10, l_11, l_12, l_13, l_14, l_15, l_16, l_17, l_18, l_19, l_20, l_24, l_30, l_31, l_40, l_45, l_50, l_57, l_58, l_59, l_60, l_61, l_62, l_63, l_64, l_90, l_99, l_100, l_107, l_108, l_109, l_110, l_111, l_299, l_300, l_400, l_407, l_807, h, oI_eq (hb1 v)]
      by_cases e : f v = some t
      · rw [if_pos e, if_pos e, lk1 v (hb v t e).2]
      · rw [if_neg e, if_neg e]
    · unfold f_X6_envied_L4
      simp (disch := omega) only [a2, a83, a84, a85, a86, a88, a89, a92, a93, a96, p2, p83, p84, p85, p86, p88, p89, p92, p93, p96, a91, a94, a95, p91, p94, p95, gI, gR, sA_nI, gA_nI, at_nI, put_nI, ibs_nI, nI_add, nI_mulI, nI_subI, nI_neg1, nI_leI, nI_ltI, nI_eq, nI_ne_m1, nI_m1_ne, nI_nlt0, Option.bind_some, bnd_some, iteP, iteN, reduceIte, b1_def, or0, if_true, if_false, eq_self, Bool.false_eq_true, l_0, l_1, l_2, l_3, l_4, l_5, l_6, l_7, l_8, l_9, l_10, l_11, l_12, l_13, l_14, l_15, l_16, l_17, l_18, l_19, l_20, l_24, l_30, l_31, l_40, l_45, l_50, l_57, l_58, l_59, l_60, l_61, l_62, l_63, l_64, l_90, l_99, l_100, l_107, l_108, l_109, l_110, l_111, l_299, l_300, l_400, l_407, l_807]
      rfl
  rw [l1, tail 10 hc, Option.bind_some]
  generalize topL lk f t 0 c = w
  have l2 : loop FU (fun a_4 => f_X6_envied_L44 M (nI t) w a_4.1 a_4.2) (0, 0) = some (bset (envB lk p f t w) 10) := by
    refine lpI (fun v s => (s, nI v)) 10 (fun v s => if envB lk p f t w v = true then s ||| b1 v else s) id (by omega) 0 rfl (fun v s hv => ?_) (fun s => ?_)
    · unfold f_X6_envied_L44 f_X6_envied_J44_81 f_X6_envied_J44_82
      simp (disch := omega) only [a2, a83, a84, a85, a86, a88, a89, a92, a93, a96, p2, p83, p84, p85, p86, p88, p89, p92, p93, p96, a91, a94, a95, p91, p94, p95, gI, gR, sA_nI, gA_nI, at_nI, put_nI, ibs_nI, nI_add, nI_mulI, nI_subI, nI_neg1, nI_leI, nI_ltI, nI_eq, nI_ne_m1, nI_m1_ne, nI_nlt0, Option.bind_some, bnd_some, iteP, iteN, reduceIte, b1_def, or0, if_true, if_false, eq_self, Bool.false_eq_true, l_0, l_1, l_2, l_3, l_4, l_5, l_6, l_7, l_8, l_9, l_10, l_11, l_12, l_13, l_14, l_15, l_16, l_17, l_18, l_19, l_20, l_24, l_30, l_31, l_40, l_45, l_50, l_57, l_58, l_59, l_60, l_61, l_62, l_63, l_64, l_90, l_99, l_100, l_107, l_108, l_109, l_110, l_111, l_299, l_300, l_400, l_407, l_807, h, oI_eq (hb1 v), oI_m1 (hb1 v)]
      cases hf : f v with
      | none => simp [envB, hf]
      | some u =>
        have hv2 := (hb v u hf).2
        by_cases e : u = t
        · subst e; simp [envB, hf]
        · have cl : f_X6_calls M (nI t) (nI v) = p v := callsC (by omega) ht hv2 h84
          rw [cl, lk1 v hv2]
          by_cases c1 : p v = true
          · by_cases c2 : lk v ≤ w
            · simp [envB, hf, e, c1, c2, nI_1, Int32.not_lt.mpr c2]
            · simp [envB, hf, e, c1, c2, nI_1, Int32.not_le.mp c2]
          · simp [envB, hf, e, c1, nI_1]
    · unfold f_X6_envied_L44
      simp (disch := omega) only [a2, a83, a84, a85, a86, a88, a89, a92, a93, a96, p2, p83, p84, p85, p86, p88, p89, p92, p93, p96, a91, a94, a95, p91, p94, p95, gI, gR, sA_nI, gA_nI, at_nI, put_nI, ibs_nI, nI_add, nI_mulI, nI_subI, nI_neg1, nI_leI, nI_ltI, nI_eq, nI_ne_m1, nI_m1_ne, nI_nlt0, Option.bind_some, bnd_some, iteP, iteN, reduceIte, b1_def, or0, if_true, if_false, eq_self, Bool.false_eq_true, l_0, l_1, l_2, l_3, l_4, l_5, l_6, l_7, l_8, l_9, l_10, l_11, l_12, l_13, l_14, l_15, l_16, l_17, l_18, l_19, l_20, l_24, l_30, l_31, l_40, l_45, l_50, l_57, l_58, l_59, l_60, l_61, l_62, l_63, l_64, l_90, l_99, l_100, l_107, l_108, l_109, l_110, l_111, l_299, l_300, l_400, l_407, l_807]
      rfl
  rw [l2]; rfl
end SETS2
