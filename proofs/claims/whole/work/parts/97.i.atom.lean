/-! the class reads an atom -/
section LAWI
variable {tx : Nat → Int32} {e i j k r b f c a d n q w L : Nat} {M N K : Mm} {x y s op : Int32} {p out st : List Int32} {v : Bool}
theorem bc_all : ∀ s, s < 64 → (f_J6_bitCount_0f7a4 ((fun _ _ => 0), (fun _ _ => 0), (fun _ _ => 0)) (nI s) = some 1 ∧ (fnd (fun k => decide (nI s = nI (2 ^ k))) 6).isSome = true ∧ f_J6_numberOfTrailingZeros_0f7a4 ((fun _ _ => 0), (fun _ _ => 0), (fun _ _ => 0)) (nI s) = (fnd (fun k => decide (nI s = nI (2 ^ k))) 6).map nI) ∨ ((f_J6_bitCount_0f7a4 ((fun _ _ => 0), (fun _ _ => 0), (fun _ _ => 0)) (nI s)).isSome = true ∧ f_J6_bitCount_0f7a4 ((fun _ _ => 0), (fun _ _ => 0), (fun _ _ => 0)) (nI s) ≠ some 1 ∧ fnd (fun k => decide (nI s = nI (2 ^ k))) 6 = none) := by decide +kernel
theorem len1 {l : List Int32} : (l ++ [op]).length = l.length + 1 := by rw [List.length_append]; rfl
theorem SmC.tr {b0 : Nat} {G : GP} {z : Bool × Mm} (h0 : Fr3 L M N) (h8 : N.1 104 8 = M.1 104 8) (h : SmC tx e L N out b0 G z) : SmC tx e L M out b0 G z := by
  obtain ⟨h1, h2⟩ := h
  refine ⟨h0.tr h1, ?_⟩
  cases G with
  | inl b => exact h2
  | inr o =>
    obtain ⟨p, j⟩ := o
    exact ⟨h2.1, h2.2.1.trans h8, h2.2.2⟩
theorem J88C (hL : kd L = 2) (he : e ≤ 400) (h : RdS M 104 tx e (j + 1)) (hp : PrC M L (out ++ p)) (hb : (out ++ p).length + b + 1 ≤ bg tx e (j + 1)) (hb1 : 1 ≤ b) {G : GP} (hs : suP tx e 400 [] (j + 1) = G) : Tr (f_X3_readAtom_J88 M L (bI v)) (fun z => Fr3 L M z.2 ∧ match (generalizing := false) (match G with | .inl b => .inl b | .inr (p2, j2) => .inr (p ++ [1020] ++ p2 ++ [if v = true then 1021 else 1022], j2) : GP) with | .inl b => z.1 = false ∧ z.2.1 104 8 = nI (bg tx e b) | .inr (p, j) => z.1 = true ∧ z.2.1 104 8 = M.1 104 8 ∧ PrC z.2 L (out ++ p) ∧ RdS z.2 104 tx e j ∧ (out ++ p).length + b ≤ bg tx e j + 1) := by
  have hle := bg_le (tx := tx) he (j + 1)
  unfold f_X3_readAtom_J88
  obtain ⟨A, a1, a2, a3, a4⟩ := addOp hL hp (by omega) 1020
  rw [a1, Option.bind_some]
  have lA : (out ++ p ++ [1020]).length = (out ++ p).length + 1 := by rw [List.length_append]; rfl
  obtain ⟨G2, e2, hT⟩ := suC hL he (h.frp hL a3) a2 (b := b) (by omega) hb1
  rw [hs] at e2
  subst e2
  have fA : Fr3 L M A := Fr3.pg a3 a4
  have eA : A.1 104 8 = M.1 104 8 := congrFun (r104 hL a3) 8
  refine Tr.bind hT (fun z hz => ?_)
  obtain ⟨t, B⟩ := z
  obtain ⟨h1, h2⟩ := hz
  have h1 : Fr3 L M B := fA.tr h1
  cases G with
  | inl bb =>
    obtain ⟨g1, g2⟩ : t = false ∧ B.1 104 8 = nI (bg tx e bb) := h2
    rw [g1, if_neg (show ¬ false = true by decide)]
    exact Tr.some ⟨h1, rfl, g2⟩
  | inr o =>
    obtain ⟨p2, j2⟩ := o
    obtain ⟨g1, g2, g3, g4, g5⟩ : t = true ∧ B.1 104 8 = A.1 104 8 ∧ PrC B L (out ++ p ++ [1020] ++ p2) ∧ RdS B 104 tx e j2 ∧ (out ++ p ++ [1020] ++ p2).length + b ≤ bg tx e j2 := h2
    rw [g1, if_pos rfl]
    have hle2 := bg_le (tx := tx) he j2
    have fin : ∀ op, Tr (f_X3_readAtom_J119 B op L) (fun z => Fr3 L M z.2 ∧ z.1 = true ∧ z.2.1 104 8 = M.1 104 8 ∧ PrC z.2 L (out ++ (p ++ [1020] ++ p2 ++ [op])) ∧ RdS z.2 104 tx e j2 ∧ (out ++ (p ++ [1020] ++ p2 ++ [op])).length + b ≤ bg tx e j2 + 1) := fun op => by
      obtain ⟨C, c1, c2, c3, c4⟩ := addOp hL g3 (by omega) op
      unfold f_X3_readAtom_J119
      rw [c1, Option.bind_some]
      have eq : out ++ (p ++ [1020] ++ p2 ++ [op]) = out ++ p ++ [1020] ++ p2 ++ [op] := by simp
      rw [eq]
      refine Tr.some ⟨h1.tr (Fr3.pg c3 c4), rfl, (congrFun (r104 hL c3) 8).trans (g2.trans eA), c2, g4.frp hL c3, ?_⟩
      rw [len1]
      omega
    cases v with
    | true => rw [if_neg (show ¬ bI true = 0 by decide)]; exact fin 1021
    | false => rw [if_pos (show bI false = 0 from rfl)]; exact fin 1022
/-- how the class stands behind an atom -/
def AmC (tx : Nat → Int32) (e L : Nat) (M : Mm) (out : List Int32) (b0 : Nat) (G : GP) (x : Bool × Mm) : Prop := Fr3 L M x.2 ∧ match G with | .inl b => x.1 = false ∧ x.2.1 104 8 = nI (bg tx e b) | .inr (p, j) => x.1 = true ∧ x.2.1 104 8 = M.1 104 8 ∧ PrC x.2 L (out ++ p) ∧ RdS x.2 104 tx e j ∧ (out ++ p).length + b0 ≤ bg tx e j + 1
theorem J42C (hL : kd L = 2) (he : e ≤ 400) (h : RdS M 104 tx e i) (hp : PrC M L out) (hb : out.length + b ≤ bg tx e i) (hb1 : 1 ≤ b) : Tr (f_X3_readAtom_J42 M L) (AmC tx e L M out b (cmP tx e i)) := by
  have hr : rOK 104 := Or.inr rfl
  unfold f_X3_readAtom_J42
  obtain ⟨G, hs, hT⟩ := suC hL he h hp hb hb1
  refine Tr.bind hT (fun z hz => ?_)
  obtain ⟨t, B⟩ := z
  obtain ⟨h1, h2⟩ := hz
  have h1 : Fr3 L M B := h1
  cases G with
  | inl bb =>
    obtain ⟨g1, g2⟩ : t = false ∧ B.1 104 8 = nI (bg tx e bb) := h2
    rw [cmP_bad hs, g1, if_neg (show ¬ false = true by decide)]
    exact Tr.some ⟨h1, rfl, g2⟩
  | inr o =>
    obtain ⟨p, j⟩ := o
    obtain ⟨g1, g2, g3, g4, g5⟩ : t = true ∧ B.1 104 8 = M.1 104 8 ∧ PrC B L (out ++ p) ∧ RdS B 104 tx e j ∧ (out ++ p).length + b ≤ bg tx e j := h2
    rw [cmP_ok hs, g1, if_pos rfl]
    generalize hs2 : suP tx e 400 [] (j + 1) = G2
    unfold cm2
    have go : ∀ (K : Mm) (v : Bool) (op : Int32), op = (if v = true then 1021 else 1022) → RdS K 104 tx e (j + 1) → Fr [104] B K → K.1 104 8 = B.1 104 8 → wdT tx e j ≠ 330 → Tr (f_X3_readAtom_J88 K L (bI v)) (AmC tx e L M out b (match (generalizing := false) G2 with | .inl b => .inl b | .inr (p2, j2) => .inr (p ++ [1020] ++ p2 ++ [op], j2))) := fun K v op k0 k1 k2 k3 k4 => by
      subst k0
      have up := bg_up he k4
      refine Tr.weak (J88C (b := b) hL he k1 (g3.f1 hL k2) (by omega) hb1 hs2) (fun z hz => ?_)
      obtain ⟨z1, z2⟩ := hz
      have f := h1.tr ((Fr3.rd hL k2).tr z1)
      cases G2 with
      | inl bb => exact ⟨f, z2⟩
      | inr o => exact ⟨f, z2.1, z2.2.1.trans (k3.trans g2), z2.2.2⟩
    rcases skipC hr he g4 325 with ⟨c1, x, x1, x2, x3, x4, x5⟩ | ⟨c1, x1⟩
    · rw [x1, Option.bind_some, x2, if_pos rfl, if_pos (Or.inl c1), if_pos c1]
      exact go x.2 true 1021 rfl x3 x4 x5 (by rw [c1]; decide)
    · rw [x1, Option.bind_some, if_neg (show ¬ false = true by decide)]
      rcases skipC hr he g4 326 with ⟨c2, x, y1, y2, y3, y4, y5⟩ | ⟨c2, y1⟩
      · rw [y1, Option.bind_some, y2, if_pos rfl, if_pos (Or.inr c2), if_neg c1]
        exact go x.2 false 1022 rfl y3 y4 y5 (by rw [c2]; decide)
      · rw [y1, Option.bind_some, if_neg (show ¬ false = true by decide), if_neg (by omega), refuseC g4, Option.bind_some]
        exact Tr.some ⟨h1.tr (Fr3.rd hL (Fr.sI (by simp))), rfl, by show (sI B 104 8 _).1 104 8 = _; rw [sI_at, if_pos ⟨rfl, rfl⟩]⟩
theorem atomC (hL : kd L = 2) (ht : TT tx e) (h : RdS M 104 tx e i) (hp : PrC M L out) (hb : out.length + b ≤ bg tx e i) (hb1 : 1 ≤ b) : Tr (f_X3_readAtom M L) (AmC tx e L M out b (plP tx e i)) := by
  have he := ht.1
  have hr : rOK 104 := Or.inr rfl
  have hle := bg_le (tx := tx) he i
  unfold f_X3_readAtom plP
  rw [marksHC h, Option.bind_some]
  by_cases c : wdT tx e i = 329 ∧ vl tx e i ≠ -1
  · obtain ⟨s, s1, s2⟩ := vl_mark ht c.1 c.2
    rw [if_pos c.1, if_neg c.2]
    unfold mkK
    rw [if_pos c.1, s1]
    rcases bc_all s s2 with ⟨q1, q2, q3⟩ | ⟨q1, q2, q3⟩
    · have q1 : f_J6_bitCount_0f7a4 M (nI s) = some 1 := q1
      have q3 : f_J6_numberOfTrailingZeros_0f7a4 M (nI s) = (fnd (fun k => decide (nI s = nI (2 ^ k))) 6).map nI := q3
      generalize hf : fnd (fun k => decide (nI s = nI (2 ^ k))) 6 = F at q2 q3
      cases F with
      | none => exact nomatch q2
      | some k =>
        have hk := (fnd_ok hf).1
        rw [q1, Option.bind_some, if_pos rfl, q3, show (some k).map nI = some (nI k) from rfl, Option.bind_some, show (1010 : Int32) + nI k = nI (1010 + k) from nI_add ..]
        obtain ⟨A, a1, a2, a3, a4⟩ := addOp hL hp (by omega) (nI (1010 + k))
        rw [a1, Option.bind_some]
        refine Tr.bind (nextC hr he (h.frp hL a3)) (fun B hB => ?_)
        obtain ⟨b1, b2, b3⟩ := hB
        have up := bg_up he (show wdT tx e i ≠ 330 by rw [c.1]; decide)
        exact Tr.some ⟨(Fr3.pg a3 a4).tr (Fr3.rd hL b2), rfl, b3.trans (congrFun (r104 hL a3) 8), a2.f1 hL b2, b1, by rw [len1]; omega⟩
    · have q2 : f_J6_bitCount_0f7a4 M (nI s) ≠ some 1 := q2
      have q1 : (f_J6_bitCount_0f7a4 M (nI s)).isSome = true := q1
      rw [q3]
      generalize f_J6_bitCount_0f7a4 M (nI s) = F at q1 q2
      cases F with
      | none => exact nomatch q1
      | some y =>
        rw [Option.bind_some, if_neg (fun hy => q2 (by rw [hy]))]
        exact J42C hL he h hp hb hb1
  · have hm : mkK tx e i = none := by
      cases hm : mkK tx e i with
      | none => rfl
      | some k =>
        obtain ⟨h1, h2, h3⟩ := mkK_ok hm
        have h4 : 2 ^ k < 64 := (str_let k h1).2.2.2
        exact absurd ⟨h2, by rw [h3, Ne, nI_ne_m1 (by omega)]; exact not_false⟩ c
    have hv : (if wdT tx e i = 329 then vl tx e i else -1) = -1 := by
      by_cases d : wdT tx e i = 329
      · rw [if_pos d]; exact Classical.byContradiction (fun h2 => c ⟨d, h2⟩)
      · rw [if_neg d]
    rw [hv, if_pos rfl, hm]
    exact J42C hL he h hp hb hb1
end LAWI
