/-! envy of the reference; thing -/
section THING
variable {LR : Mm → Nat → (Nat → Int32) → Prop} {LK : (Nat → Int32) → Nat → Nat → Int32 → Int32} {n : Nat} {M N Mc Mr Nc Nr : Mm} {q L B a b c : Nat} {m m2 : Nat → Int32} {x x1 x2 x3 x4 x5 : Int32}
theorem mx_le {x y z : Int32} : (z ≤ mx x y) ↔ (z ≤ x ∨ z ≤ y) := by
  unfold mx
  by_cases h : x < y
  · rw [if_pos h]
    exact ⟨Or.inr, fun h2 => h2.elim (fun h3 => Int32.le_trans h3 (Int32.le_of_lt h)) id⟩
  · rw [if_neg h]
    exact ⟨Or.inl, fun h2 => h2.elim id (fun h3 => Int32.le_trans h3 (Int32.not_lt.mp h))⟩
theorem topL_le {lk : Nat → Int32} {f : Nat → Option Nat} {t : Nat} {x y : Int32} : ∀ n, (y ≤ topL lk f t x n) ↔ (y ≤ x ∨ ∃ v, v < n ∧ f v = some t ∧ y ≤ lk v) := by
  intro n
  induction n with
  | zero => exact ⟨Or.inl, fun h => h.elim id (fun ⟨v, h, _⟩ => absurd h (Nat.not_lt_zero v))⟩
  | succ n ih =>
    show (y ≤ (if f n = some t then mx (topL lk f t x n) (lk n) else topL lk f t x n)) ↔ _
    by_cases h : f n = some t
    · rw [if_pos h, mx_le, ih]
      constructor
      · rintro ((h1 | ⟨v, h1, h2⟩) | h1)
        · exact Or.inl h1
        · exact Or.inr ⟨v, by omega, h2⟩
        · exact Or.inr ⟨n, by omega, h, h1⟩
      · rintro (h1 | ⟨v, h1, h2, h3⟩)
        · exact Or.inl (Or.inl h1)
        · by_cases e : v = n
          · subst e; exact Or.inr h3
          · exact Or.inl (Or.inr ⟨v, by omega, h2, h3⟩)
    · rw [if_neg h, ih]
      constructor
      · rintro (h1 | ⟨v, h1, h2⟩)
        · exact Or.inl h1
        · exact Or.inr ⟨v, by omega, h2⟩
      · rintro (h1 | ⟨v, h1, h2, h3⟩)
        · exact Or.inl h1
        · by_cases e : v = n
          · subst e; exact absurd h2 h
          · exact Or.inr ⟨v, by omega, h2, h3⟩
theorem env_eq {lk : Nat → Int32} {p : Nat → Bool} {f : Nat → Option Nat} {t n : Nat} (hp : ∀ v, p v = true → ¬ lk v ≤ 0) (v : Nat) : envB lk p f t (topL lk f t (-1) n) v = envB lk p f t (topL lk f t 0 n) v := by
  unfold envB
  cases hp2 : p v with
  | false => simp
  | true =>
    have h0 := hp v hp2
    have h1 : ¬ lk v ≤ -1 := fun h => h0 (Int32.le_trans h (by decide))
    have : (lk v ≤ topL lk f t (-1) n) = (lk v ≤ topL lk f t 0 n) := by
      apply propext
      rw [topL_le, topL_le]
      simp [h0, h1]
    simp only [this]
theorem envR (hm : M.1 110 = m) (hI : Inv m B) (h116 : ∀ t v, t < tN m → v < vN m → M.1 116 (10 * t + v) = lkv LK m t v) {f : Nat → Option Nat} (h : ∀ v, v < 10 → M.1 117 v = oI (f v)) (hb : ∀ v t, f v = some t → t < 2 ^ 31) {t : Nat} (ht : t < tN m) : f_X10_envy M (nI t) = some (bset (envB (fun v => lkv LK m t v) (fun v => rgs m t (lkv LK m t v)) f t (topL (fun v => lkv LK m t v) f t (-1) (vN m))) (vN m)) := by
  obtain ⟨e3, hT⟩ := hI.t
  obtain ⟨e4, hV⟩ := hI.v
  have g4 : M.1 110 4 = nI (vN m) := by rw [hm]; exact e4
  unfold f_X10_envy
  have l1 : loop FU (fun a_2 => f_X10_envy_L4 M (nI t) a_2.1 a_2.2) ((-1), 0) = some (topL (fun v => lkv LK m t v) f t (-1) (vN m)) := by
    refine lpI (fun v s => (s, nI v)) (vN m) (fun v s => if f v = some t then mx s (lkv LK m t v) else s) id (by omega) (-1) rfl (fun v s hv => ?_) (fun s => ?_)
    · have gr : f_X10_greater M s (lkv LK m t v) = mx s (lkv LK m t v) := by
        unfold f_X10_greater mx
        by_cases c1 : s < lkv LK m t v
        · rw [if_pos c1, if_pos (Int32.le_of_lt c1)]
        · rw [if_neg c1]
          by_cases c2 : s ≤ lkv LK m t v
          · rw [if_pos c2]
            exact Int32.le_antisymm (Int32.not_lt.mp c1) c2
          · rw [if_neg c2]
      have l6 := h116 t v ht hv
      unfold f_X10_envy_L4
      simp (disch := omega) only [a2, a83, a84, a85, a86, a88, a89, a92, a93, a96, p2, p83, p84, p85, p86, p88, p89, p92, p93, p96, a91, a94, a95, p91, p94, p95, gI, gR, sA_nI, gA_nI, at_nI, put_nI, ibs_nI, nI_add, nI_mulI, nI_subI, nI_neg1, nI_leI, nI_ltI, nI_eq, nI_ne_m1, nI_m1_ne, nI_nlt0, Option.bind_some, bnd_some, iteP, iteN, reduceIte, b1_def, or0, if_true, if_false, eq_self, Bool.false_eq_true, l_0, l_1, l_2, l_3, l_4, l_5, l_6, l_7, l_8, l_9, l_10, l_11, l_12, l_13, l_14, l_15, l_16, l_17, l_18, l_19, l_20, l_24, l_30, l_31, l_40, l_45, l_50, l_57, l_58, l_59, l_60, l_61, l_62, l_63, l_64, l_90, l_99, l_100, l_107, l_108, l_109, l_110, l_111, l_299, l_300, l_400, l_407, l_807, g4, h, oI_eq (hb v), l6, gr]
      by_cases e : f v = some t
      · rw [if_pos e, if_pos e]
      · rw [if_neg e, if_neg e]
    · unfold f_X10_envy_L4
      simp (disch := omega) only [a2, a83, a84, a85, a86, a88, a89, a92, a93, a96, p2, p83, p84, p85, p86, p88, p89, p92, p93, p96, a91, a94, a95, p91, p94, p95, gI, gR, sA_nI, gA_nI, at_nI, put_nI, ibs_nI, nI_add, nI_mulI, nI_subI, nI_neg1, nI_leI, nI_ltI, nI_eq, nI_ne_m1, nI_m1_ne, nI_nlt0, Option.bind_some, bnd_some, iteP, iteN, reduceIte, b1_def, or0, if_true, if_false, eq_self, Bool.false_eq_true, l_0, l_1, l_2, l_3, l_4, l_5, l_6, l_7, l_8, l_9, l_10, l_11, l_12, l_13, l_14, l_15, l_16, l_17, l_18, l_19, l_20, l_24, l_30, l_31, l_40, l_45, l_50, l_57, l_58, l_59, l_60, l_61, l_62, l_63, l_64, l_90, l_99, l_100, l_107, l_108, l_109, l_110, l_111, l_299, l_300, l_400, l_407, l_807, g4]
      rfl
  rw [l1, Option.bind_some]
  generalize topL (fun v => lkv LK m t v) f t (-1) (vN m) = w
  have l2 : loop FU (fun a_5 => f_X10_envy_L51 M (nI t) w a_5.1 a_5.2) (0, 0) = some (bset (envB (fun v => lkv LK m t v) (fun v => rgs m t (lkv LK m t v)) f t w) (vN m)) := by
    refine lpI (fun v s => (s, nI v)) (vN m) (fun v s => if envB (fun v => lkv LK m t v) (fun v => rgs m t (lkv LK m t v)) f t w v = true then s ||| b1 v else s) id (by omega) 0 rfl (fun v s hv => ?_) (fun s => ?_)
    · have l6 := h116 t v ht hv
      have cH := canHaveR (LK := LK) hm (t := t) (v := v) (by omega) (by omega) l6
      unfold f_X10_envy_L51 f_X10_envy_J51_118
      simp (disch := omega) only [a2, a83, a84, a85, a86, a88, a89, a92, a93, a96, p2, p83, p84, p85, p86, p88, p89, p92, p93, p96, a91, a94, a95, p91, p94, p95, gI, gR, sA_nI, gA_nI, at_nI, put_nI, ibs_nI, nI_add, nI_mulI, nI_subI, nI_neg1, nI_leI, nI_ltI, nI_eq, nI_ne_m1, nI_m1_ne, nI_nlt0, Option.bind_some, bnd_some, iteP, iteN, reduceIte, b1_def, or0, if_true, if_false, eq_self, Bool.false_eq_true, l_0, l_1, l_2, l_3, l_4, l_5, l_6, l_7, l_8, l_9, l_10, l_11, l_12, l_13, l_14, l_15, l_16, l_17, l_18, l_19, l_20, l_24, l_30, l_31, l_40, l_45, l_50, l_57, l_58, l_59, l_60, l_61, l_62, l_63, l_64, l_90, l_99, l_100, l_107, l_108, l_109, l_110, l_111, l_299, l_300, l_400, l_407, l_807, g4, h, oI_eq (hb v), oI_m1 (hb v), l6, cH]
      cases hf : f v with
      | none => simp [envB, hf]
      | some u =>
        by_cases e : u = t
        · subst e; simp [envB, hf]
        · by_cases c1 : rgs m t (lkv LK m t v) = true
          · by_cases c2 : lkv LK m t v ≤ w
            · simp [envB, hf, e, c1, c2, Int32.not_lt.mpr c2]
            · simp [envB, hf, e, c1, c2, Int32.not_le.mp c2]
          · simp [envB, hf, e, c1]
    · unfold f_X10_envy_L51
      simp (disch := omega) only [a2, a83, a84, a85, a86, a88, a89, a92, a93, a96, p2, p83, p84, p85, p86, p88, p89, p92, p93, p96, a91, a94, a95, p91, p94, p95, gI, gR, sA_nI, gA_nI, at_nI, put_nI, ibs_nI, nI_add, nI_mulI, nI_subI, nI_neg1, nI_leI, nI_ltI, nI_eq, nI_ne_m1, nI_m1_ne, nI_nlt0, Option.bind_some, bnd_some, iteP, iteN, reduceIte, b1_def, or0, if_true, if_false, eq_self, Bool.false_eq_true, l_0, l_1, l_2, l_3, l_4, l_5, l_6, l_7, l_8, l_9, l_10, l_11, l_12, l_13, l_14, l_15, l_16, l_17, l_18, l_19, l_20, l_24, l_30, l_31, l_40, l_45, l_50, l_57, l_58, l_59, l_60, l_61, l_62, l_63, l_64, l_90, l_99, l_100, l_107, l_108, l_109, l_110, l_111, l_299, l_300, l_400, l_407, l_807, g4]
      rfl
  rw [l2]; rfl
theorem rgs_pos {t : Nat} {y : Int32} (h : rgs m t y = true) : ¬ y ≤ 0 := by
  unfold rgs at h
  have h2 := (Bool.and_eq_true_iff.mp (Bool.and_eq_true_iff.mp h).2).1
  exact of_decide_eq_true h2
end THING
