/-! what the law is on both sides -/
section LAWD
variable {tx : Nat → Int32} {e i j k r b f c a d n q w t v B L L2 : Nat} {M N K : Mm} {m m2 : Nat → Int32} {p p2 l2 : List Int32} {x y s mk op as wh wt : Int32} {P : Nat → Int32} {u u2 : List (Int32 × Int32 × List Int32)}
def txm (m : Nat → Int32) : Nat → Int32 := fun k => if k < 400 then m (407 + k) else 0
def PK (m : Nat → Int32) (t v : Nat) : Nat → Int32 := fun k => if k = 0 then m (57 + 5 * v + 0) else if k = 1 then m (57 + 5 * v + 1) else if k = 2 then m (57 + 5 * v + 2) else if k = 3 then m (12 + 5 * t + 0) else if k = 4 then m (12 + 5 * t + 4) else if k = 5 then m 6 else 0
def gr0 (x : Int32) : Int32 := if 0 ≤ x then x else 0
def LKu (P : Nat → Int32) (mk as : Int32) (G : Nat ⊕ (List (Int32 × Int32 × List Int32) × Nat)) : Int32 := match G with | .inl _ => 0 | .inr (u, _) => gr0 (wgU P mk as u)
def LK (m : Nat → Int32) (t v : Nat) (mk : Int32) : Int32 := if m 1 = -1 then m (57 + 5 * v + 1) else LKu (PK m t v) mk (nI t) (txL (txm m) (m 2).toNatClampNeg)
def pr (u : List (Int32 × Int32 × List Int32)) : List Int32 := u.flatMap (fun l => l.2.2)
def CmL (M : Mm) (L : Nat) (u : List (Int32 × Int32 × List Int32)) : Prop := u.length ≤ 12 ∧ (pr u).length ≤ 400 ∧ (∀ x, x < (pr u).length → M.1 (L + 4) x = (pr u).getD x 0) ∧ ∀ k, k < u.length → M.1 (L + 1) k = (u.getD k (0, 0, [])).2.1 ∧ M.1 (L + 2) k = (u.getD k (0, 0, [])).1 ∧ M.1 (L + 3) k = nI (pr (u.take (k + 1))).length
def LRt (M : Mm) (L : Nat) (m : Nat → Int32) (e : Nat) (G : Nat ⊕ (List (Int32 × Int32 × List Int32) × Nat)) : Prop := ∃ u, G = .inr (u, u.length) ∧ e ≤ 400 ∧ m 2 = nI e ∧ (∀ i, i < e → isN (m (407 + i)) 255) ∧ m 1 = nI u.length ∧ CmL M L u
def LR (M : Mm) (L : Nat) (m : Nat → Int32) : Prop := M.1 L 6 = m 1 ∧ (m 1 = -1 ∨ LRt M L m (m 2).toNatClampNeg (txL (txm m) (m 2).toNatClampNeg))
theorem txm_eq (h : eqL m m2) : txm m2 = txm m := by
  funext k
  unfold txm
  by_cases c : k < 400
  · rw [if_pos c, if_pos c]; exact h.2.2 _ (by omega) (by omega)
  · rw [if_neg c, if_neg c]
theorem LR_1 (h : LR M L m) (hf : ∀ i, L ≤ i → i < L + 5 → N.1 i = M.1 i) : LR N L m := by
  obtain ⟨h1, h2⟩ := h
  refine ⟨by rw [hf L (by omega) (by omega)]; exact h1, ?_⟩
  generalize txL (txm m) (m 2).toNatClampNeg = G at h2 ⊢
  rcases h2 with h2 | ⟨u, a1, a2, a3, a4, a5, a6, a7, a8, a9⟩
  · exact Or.inl h2
  · refine Or.inr ⟨u, a1, a2, a3, a4, a5, a6, a7, fun x hx => ?_, fun k hk => ?_⟩
    · rw [hf _ (by omega) (by omega)]; exact a8 x hx
    · rw [hf _ (by omega) (by omega), hf _ (by omega) (by omega), hf _ (by omega) (by omega)]; exact a9 k hk
theorem LR_2 (h : LR M L m) (he : eqL m m2) : LR M L m2 := by
  obtain ⟨h1, h2⟩ := h
  unfold LR
  rw [txm_eq he, he.1, he.2.1]
  refine ⟨h1, ?_⟩
  generalize txL (txm m) (m 2).toNatClampNeg = G at h2 ⊢
  rcases h2 with h2 | ⟨u, a1, a2, a3, a4, a5, a6⟩
  · exact Or.inl h2
  · exact Or.inr ⟨u, a1, a2, by rw [he.2.1]; exact a3, fun i hi => by rw [he.2.2 _ (by omega) (by omega)]; exact a4 i hi, by rw [he.1]; exact a5, a6⟩
theorem LR_3 (he : eqL m m2) (h6 : m2 6 = m 6) (hv : ∀ c, c < 3 → m2 (57 + 5 * v + c) = m (57 + 5 * v + c)) (h0 : m2 (12 + 5 * t + 0) = m (12 + 5 * t + 0)) (h4 : m2 (12 + 5 * t + 4) = m (12 + 5 * t + 4)) : LK m2 t v mk = LK m t v mk := by
  have hP : PK m2 t v = PK m t v := by
    funext k
    unfold PK
    rw [hv 0 (by decide), hv 1 (by decide), hv 2 (by decide), h0, h4, h6]
  unfold LK
  rw [hP, txm_eq he, he.1, he.2.1, hv 1 (by decide)]
theorem LR_7 (h : LR M L m) (hc : ∀ j, 1 ≤ j → j < 5 → ∀ k, k < (if j = 4 then 400 else 12) → N.1 (L2 + j) k = M.1 (L + j) k) (h6 : N.1 L2 6 = M.1 L 6) : LR N L2 m := by
  obtain ⟨h1, h2⟩ := h
  refine ⟨h6.trans h1, ?_⟩
  generalize txL (txm m) (m 2).toNatClampNeg = G at h2 ⊢
  rcases h2 with h2 | ⟨u, a1, a2, a3, a4, a5, a6, a7, a8, a9⟩
  · exact Or.inl h2
  · refine Or.inr ⟨u, a1, a2, a3, a4, a5, a6, a7, fun x hx => ?_, fun k hk => ?_⟩
    · rw [hc 4 (by decide) (by decide) x (by rw [if_pos rfl]; omega)]; exact a8 x hx
    · rw [hc 1 (by decide) (by decide) k (by rw [if_neg (by decide)]; omega), hc 2 (by decide) (by decide) k (by rw [if_neg (by decide)]; omega), hc 3 (by decide) (by decide) k (by rw [if_neg (by decide)]; omega)]; exact a9 k hk
-- the bound of LIKING
def bdU (u : List (Int32 × Int32 × List Int32)) : Prop := ∀ l ∈ u, ∃ z : Int, l.2.1 = Int32.ofInt z ∧ -99 ≤ z ∧ z ≤ 99
theorem wgU_bd : ∀ u s, bdU u → ∀ z : Int, s = Int32.ofInt z → -(1188 : Int) ≤ z - 99 * u.length → z + 99 * u.length ≤ 1188 → ∃ y : Int, u.foldl (wg1 P mk as) s = Int32.ofInt y ∧ -1188 ≤ y ∧ y ≤ 1188 := by
  intro u
  induction u with
  | nil => intro s _ z hz h1 h2; exact ⟨z, hz, by simp at h1; omega, by simp at h2; omega⟩
  | cons l u ih =>
    intro s hu z hz h1 h2
    obtain ⟨y, y1, y2, y3⟩ := hu l List.mem_cons_self
    have hu2 : bdU u := fun q hq => hu q (List.mem_cons_of_mem _ hq)
    rw [List.length_cons] at h1 h2
    rw [List.foldl_cons]
    unfold wg1
    by_cases c : (l.1 = -1 ∨ l.1 = as) ∧ hdP P mk l.2.2 = true
    · rw [if_pos c]
      exact ih _ hu2 (z + y) (by rw [hz, y1, Int32.ofInt_add]) (by omega) (by omega)
    · rw [if_neg c]
      exact ih _ hu2 z hz (by omega) (by omega)
theorem lnP_bd {r : Nat ⊕ (List (Int32 × Int32 × List Int32) × Nat)} (hu : bdU u) (h : lnP tx e u i = .inr (u2, j)) : bdU u2 ∧ u2.length = u.length + 1 := by
  have last : ∀ lk wh k p, nm tx e 0 99 k = true → bdU (u ++ [(wh, (if lk = true then vl tx e k else -(vl tx e k)), p)]) ∧ (u ++ [(wh, (if lk = true then vl tx e k else -(vl tx e k)), p)]).length = u.length + 1 := fun lk wh k p hn => by
    refine ⟨fun l hl => ?_, by rw [List.length_append]; rfl⟩
    rcases List.mem_append.mp hl with h1 | h1
    · exact hu l h1
    · rw [List.mem_singleton.mp h1]
      obtain ⟨-, h2, h3⟩ := nm_iff.mp hn
      obtain ⟨z, z1, z2⟩ := idx_of (x := vl tx e k) (n := 100) (by decide) h2 (fun hh => h3 (Int32.lt_of_lt_of_le (by decide) hh))
      cases lk with
      | true => exact ⟨z, by show (if true = true then vl tx e k else -(vl tx e k)) = _; rw [if_pos rfl, z2]; exact (Int32.ofInt_eq_ofNat ..).symm, by omega, by omega⟩
      | false => exact ⟨-z, by show (if false = true then vl tx e k else -(vl tx e k)) = _; rw [if_neg (by decide), z2, Int32.ofInt_neg]; rw [show Int32.ofInt (z : Int) = nI z from Int32.ofInt_eq_ofNat ..], by omega, by omega⟩
  have hQ : ∀ lk wh k, lnQ tx e u lk wh k = .inr (u2, j) → bdU u2 ∧ u2.length = u.length + 1 := fun lk wh k hh => by
    unfold lnQ at hh
    by_cases c : nm tx e 0 99 k = true
    · rw [if_pos c] at hh
      by_cases d : wdT tx e (k + 1) = 312
      · rw [if_pos d] at hh
        generalize coP tx e (k + 2) = G at hh
        cases G with
        | inl b => exact nomatch hh
        | inr o => cases hh; exact last lk wh k _ c
      · rw [if_neg d] at hh; cases hh; exact last lk wh k _ c
    · rw [if_neg c] at hh; exact nomatch hh
  have hO : ∀ lk k, lnO tx e u lk k = .inr (u2, j) → bdU u2 ∧ u2.length = u.length + 1 := fun lk k hh => by
    unfold lnO at hh
    generalize whP tx e k = G at hh
    cases G with
    | none => exact nomatch hh
    | some wh => exact hQ lk wh (k + 1) hh
  unfold lnP at h
  by_cases c : wdT tx e i = 309
  · rw [if_pos c] at h; exact hO true _ h
  · rw [if_neg c] at h
    by_cases d : wdT tx e i = 310
    · rw [if_pos d] at h; exact hO false _ h
    · rw [if_neg d] at h; exact nomatch h
theorem gF_bd : ∀ k c u i u2 c2, bdU u → u.length = c → gF tx e (lnP tx e) k c u i = .inr (u2, c2) → bdU u2 ∧ u2.length = c2 ∧ c2 ≤ c + k := by
  intro k
  induction k with
  | zero => intro c u i u2 c2 _ _ h; exact nomatch h
  | succ k ih =>
    intro c u i u2 c2 hu hc h
    rw [gF_succ] at h
    generalize hl : lnP tx e u i = G at h
    cases G with
    | inl b => exact nomatch h
    | inr o =>
      obtain ⟨u3, j⟩ := o
      obtain ⟨h1, h2⟩ := lnP_bd (r := .inl 0) hu hl
      have h : (if wdT tx e j = 330 then Sum.inr (u3, c + 1) else if wdT tx e j = 322 then gF tx e (lnP tx e) k (c + 1) u3 (j + 1) else .inl j) = .inr (u2, c2) := h
      by_cases d : wdT tx e j = 330
      · rw [if_pos d] at h; cases h; exact ⟨h1, by omega, by omega⟩
      · rw [if_neg d] at h
        by_cases f : wdT tx e j = 322
        · rw [if_pos f] at h
          obtain ⟨g1, g2, g3⟩ := ih _ _ _ _ _ h1 (by omega) h
          exact ⟨g1, g2, by omega⟩
        · rw [if_neg f] at h; exact nomatch h
theorem txL_bd (h : txL tx e = .inr (u, c)) : bdU u ∧ u.length = c ∧ c ≤ 12 := by
  unfold txL gR0 at h
  by_cases d : wdT tx e 0 = 330
  · rw [if_pos d] at h; cases h; exact ⟨fun l hl => absurd hl List.not_mem_nil, rfl, by omega⟩
  · rw [if_neg d] at h
    obtain ⟨h1, h2, h3⟩ := gF_bd _ _ _ _ _ _ (fun l hl => absurd hl List.not_mem_nil) rfl h
    exact ⟨h1, h2, by omega⟩
theorem LR_6 (hI : Inv m B) (hv : v < vN m) : isN (LK m t v mk) 1188 := by
  unfold LK
  by_cases c : m 1 = -1
  · rw [if_pos c]
    obtain ⟨h1, h2⟩ := (hI.2.2.2.2.2.2.2.1 v hv).1
    exact ⟨h1, by omega⟩
  · rw [if_neg c]
    generalize hG : txL (txm m) (m 2).toNatClampNeg = G
    cases G with
    | inl b => exact isN_nI (a := 0) (by decide) (by decide)
    | inr o =>
      obtain ⟨u, c2⟩ := o
      obtain ⟨h1, h2, h3⟩ := txL_bd hG
      obtain ⟨y, y1, y2, y3⟩ := wgU_bd (P := PK m t v) (mk := mk) (as := nI t) u 0 h1 0 rfl (by omega) (by omega)
      show isN (gr0 (wgU (PK m t v) mk (nI t) u)) 1188
      unfold wgU
      rw [show PK m t v 6 = 0 from rfl, y1]
      unfold gr0
      by_cases d : (0 : Int32) ≤ Int32.ofInt y
      · rw [if_pos d]
        have hy : 0 ≤ y := by
          rw [Int32.le_iff_toInt_le, Int32.toInt_ofInt_of_le (by omega) (by omega)] at d
          exact d
        rw [show y = ((y.toNat : Nat) : Int) by omega, Int32.ofInt_eq_ofNat]
        exact isN_nI (by omega) (by decide)
      · rw [if_neg d]; exact isN_nI (a := 0) (by decide) (by decide)
end LAWD
