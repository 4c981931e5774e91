/-! the class reads a line of the law, and its text -/
section LAWN
variable {tx : Nat → Int32} {e i j k r b f c a d n q w L : Nat} {M N K : Mm} {x y s op wh wt : Int32} {p out st : List Int32} {v lk : Bool} {u u2 : List (Int32 × Int32 × List Int32)}
def rwC (M : Mm) (L : Nat) (u : List (Int32 × Int32 × List Int32)) : Prop := ∀ k, k < u.length → M.1 (L + 1) k = (u.getD k (0, 0, [])).2.1 ∧ M.1 (L + 2) k = (u.getD k (0, 0, [])).1 ∧ M.1 (L + 3) k = nI (pr (u.take (k + 1))).length
/-- the class's law L holds the lines u -/
def ClS (M : Mm) (L : Nat) (u : List (Int32 × Int32 × List Int32)) : Prop := M.1 L 6 = nI u.length ∧ PrC M L (pr u) ∧ rwC M L u
theorem bg_ge0 (he : e ≤ 400) : bg tx e i ≤ bg tx e (i + 1) := by
  have h := bg_le (tx := tx) he i
  by_cases c : bg tx e i = e
  · rw [bg_end he c, c]; exact Nat.le_refl _
  · have := bg_lt (tx := tx) (i := i) he (by omega)
    omega
def LR7 (L : Nat) : List Nat := [L, L + 1, L + 2, L + 3, L + 4, 102, 103, 104]
theorem rwC.fr (h : rwC M L u) (h1 : N.1 (L + 1) = M.1 (L + 1)) (h2 : N.1 (L + 2) = M.1 (L + 2)) (h3 : N.1 (L + 3) = M.1 (L + 3)) : rwC N L u := fun k hk => by rw [h1, h2, h3]; exact h k hk
theorem rwC.l (hL : kd L = 2) (h : rwC M L u) (hF : FrL L M N) : rwC N L u := by
  have := (lnL hL).2.2.2.2.2
  exact h.fr (hF.1 _ (by simp; omega)).1 (hF.1 _ (by simp; omega)).1 (hF.1 _ (by simp; omega)).1
theorem ClS.f1 (hL : kd L = 2) (h : ClS M L u) (hF : Fr [104] M N) : ClS N L u := ⟨((FrL.r104 hL hF).2 6 (by decide)).trans h.1, h.2.1.f1 hL hF, h.2.2.l hL (FrL.r104 hL hF)⟩
theorem pr_snoc {l : Int32 × Int32 × List Int32} : pr (u ++ [l]) = pr u ++ l.2.2 := by
  unfold pr
  rw [List.flatMap_append]
  simp
theorem endLn (hL : kd L = 2) (h6 : M.1 L 6 = nI u.length) (hp : PrC M L (pr u ++ p)) (hr : rwC M L u) (hu : u.length < 12) : ∃ N, f_X2_endLine M L wh wt = some N ∧ ClS N L (u ++ [(wh, wt, p)]) ∧ Fr [L, L + 1, L + 2, L + 3] M N := by
  obtain ⟨l1, l2, l3, l4, l5, l6, l7, l8⟩ := lnL hL
  unfold f_X2_endLine
  have e1 : gI M L 6 = nI u.length := h6
  have e2 : gI (sI M (L + 2) u.length wh) L 6 = nI u.length := by show (sI M (L + 2) u.length wh).1 L 6 = _; rw [sI_fn (by omega)]; exact h6
  have e3 : gI (sI (sI M (L + 2) u.length wh) (L + 1) u.length wt) L 6 = nI u.length := by show (sI (sI M (L + 2) u.length wh) (L + 1) u.length wt).1 L 6 = _; rw [sI_fn (by omega)]; exact e2
  have e4 : gI (sI (sI M (L + 2) u.length wh) (L + 1) u.length wt) L 5 = nI (pr u ++ p).length := by show (sI (sI M (L + 2) u.length wh) (L + 1) u.length wt).1 L 5 = _; rw [sI_fn (by omega), sI_fn (by omega)]; exact hp.1
  have e5 : gI (sI (sI (sI M (L + 2) u.length wh) (L + 1) u.length wt) (L + 3) u.length (nI (pr u ++ p).length)) L 6 = nI u.length := by show (sI (sI (sI M (L + 2) u.length wh) (L + 1) u.length wt) (L + 3) u.length _).1 L 6 = _; rw [sI_fn (by omega)]; exact e3
  rw [e1, put_nI l2 hu, Option.bind_some, e2, put_nI l1 hu, Option.bind_some, e3, e4, put_nI l3 hu, Option.bind_some, e5, l_1, nI_add, Option.bind_some]
  have hpr : pr (u ++ [(wh, wt, p)]) = pr u ++ p := pr_snoc
  refine ⟨_, rfl, ⟨?_, ⟨?_, fun x hx => ?_⟩, fun k hk => ?_⟩, (((Fr.sI (by simp)).tr (Fr.sI (by simp))).tr (Fr.sI (by simp))).tr (Fr.sI (by simp))⟩
  · rw [sI_at, if_pos ⟨rfl, rfl⟩, List.length_append]; rfl
  · rw [hpr, sI_at, if_neg (by omega), sI_fn (by omega)]; exact e4
  · rw [hpr] at hx ⊢
    rw [sI_fn (by omega), sI_fn (by omega), sI_fn (by omega), sI_fn (by omega)]
    exact hp.2 x hx
  · rw [List.length_append, List.length_singleton] at hk
    have hk1 : (sI (sI (sI (sI M (L + 2) u.length wh) (L + 1) u.length wt) (L + 3) u.length (nI (pr u ++ p).length)) L 6 (nI (u.length + 1))).1 (L + 1) k = if k = u.length then wt else M.1 (L + 1) k := by
      rw [sI_fn (by omega), sI_fn (by omega), sI_at]
      by_cases c : k = u.length
      · rw [if_pos ⟨rfl, c⟩, if_pos c]
      · rw [if_neg (fun h => c h.2), if_neg c, sI_fn (by omega)]
    have hk2 : (sI (sI (sI (sI M (L + 2) u.length wh) (L + 1) u.length wt) (L + 3) u.length (nI (pr u ++ p).length)) L 6 (nI (u.length + 1))).1 (L + 2) k = if k = u.length then wh else M.1 (L + 2) k := by
      rw [sI_fn (by omega), sI_fn (by omega), sI_fn (by omega), sI_at]
      by_cases c : k = u.length
      · rw [if_pos ⟨rfl, c⟩, if_pos c]
      · rw [if_neg (fun h => c h.2), if_neg c]
    have hk3 : (sI (sI (sI (sI M (L + 2) u.length wh) (L + 1) u.length wt) (L + 3) u.length (nI (pr u ++ p).length)) L 6 (nI (u.length + 1))).1 (L + 3) k = if k = u.length then nI (pr u ++ p).length else M.1 (L + 3) k := by
      rw [sI_fn (by omega), sI_at]
      by_cases c : k = u.length
      · rw [if_pos ⟨rfl, c⟩, if_pos c]
      · rw [if_neg (fun h => c h.2), if_neg c, sI_fn (by omega), sI_fn (by omega)]
    rw [hk1, hk2, hk3]
    by_cases c : k = u.length
    · rw [if_pos c, if_pos c, if_pos c, c]
      have g := gD_r (l := u) (l2 := [(wh, wt, p)]) (d := (0, 0, [])) (k := 0)
      rw [Nat.add_zero] at g
      rw [g]
      refine ⟨rfl, rfl, ?_⟩
      rw [List.take_of_length_le (by rw [List.length_append]; exact Nat.le_refl _), hpr]
    · rw [if_neg c, if_neg c, if_neg c, gD_l (by omega), List.take_append_of_le_length (by omega)]
      exact hr k (by omega)
/-- how the class stands behind a line -/
def LnC (tx : Nat → Int32) (e L : Nat) (M : Mm) (G : Nat ⊕ (List (Int32 × Int32 × List Int32) × Nat)) (z : Bool × Mm) : Prop := Fr (LR7 L) M z.2 ∧ match G with | .inl b => z.1 = false ∧ z.2.1 104 8 = nI (bg tx e b) | .inr (u2, j) => z.1 = true ∧ z.2.1 104 8 = M.1 104 8 ∧ ClS z.2 L u2 ∧ RdS z.2 104 tx e j ∧ (pr u2).length ≤ bg tx e j
theorem LnC.wa {G : Nat ⊕ (List (Int32 × Int32 × List Int32) × Nat)} {z : Bool × Mm} (hw : Fr [104] M N) (h8 : N.1 104 8 = M.1 104 8) (h : LnC tx e L N G z) : LnC tx e L M G z := by
  obtain ⟨h1, h2⟩ := h
  refine ⟨(hw.mono (by simp [LR7])).tr h1, ?_⟩
  cases G with
  | inl b => exact h2
  | inr o =>
    obtain ⟨p, j⟩ := o
    exact ⟨h2.1, h2.2.1.trans h8, h2.2.2⟩
theorem refLn (h : RdS M 104 tx e i) : Tr ((some (f_X7_refuse M 104)).bind (fun rr => some (rr.1, rr.2))) (LnC tx e L M (.inl i)) := by
  rw [refuseC h, Option.bind_some]
  refine Tr.some ⟨Fr.sI (by simp [LR7]), rfl, ?_⟩
  show (sI M 104 8 _).1 104 8 = _
  rw [sI_at, if_pos ⟨rfl, rfl⟩]
theorem J136C (hL : kd L = 2) (h6 : M.1 L 6 = nI u.length) (hp : PrC M L (pr u ++ p)) (hrw : rwC M L u) (hu : u.length < 12) (hR : RdS M 104 tx e j) (hb : (pr u ++ p).length ≤ bg tx e j) : Tr (f_X3_readLine_J136 M L (bI lk) wh y) (LnC tx e L M (.inr (u ++ [(wh, (if lk = true then y else -y), p)], j))) := by
  have hLn := (lnL hL).2.2.2.2.2
  have go : ∀ wt, Tr (f_X3_readLine_J150 M wt wh L) (LnC tx e L M (.inr (u ++ [(wh, wt, p)], j))) := fun wt => by
    obtain ⟨N, n1, n2, n3⟩ := endLn (wh := wh) (wt := wt) hL h6 hp hrw hu
    unfold f_X3_readLine_J150
    rw [n1, Option.bind_some]
    refine Tr.some ⟨n3.mono (by simp [LR7]), rfl, congrFun (n3 104 (by simp; omega)).1 8, n2, hR.fr (fun j h1 h2 => ⟨(n3 j (by simp; omega)).1, (n3 j (by simp; omega)).2.2⟩), ?_⟩
    rw [pr_snoc]; exact hb
  unfold f_X3_readLine_J136
  cases lk with
  | true => rw [if_neg (show ¬ bI true = 0 by decide), if_pos rfl]; exact go y
  | false => rw [if_pos (show bI false = 0 from rfl), if_neg (show ¬ false = true by decide)]; exact go (-y)
theorem numN {lo hi : Int32} : (if wdT tx e i = 328 ∧ ¬ vl tx e i < lo ∧ ¬ hi < vl tx e i then vl tx e i else -1) = if nm tx e lo hi i = true then vl tx e i else -1 := by
  by_cases c : nm tx e lo hi i = true
  · rw [if_pos c, if_pos (nm_iff.mp c)]
  · rw [if_neg c, if_neg (fun h => c (nm_iff.mpr h))]
theorem J73C (hL : kd L = 2) (ht : TT tx e) (hR : RdS M 104 tx e i) (hc : ClS M L u) (hu : u.length < 12) (hb : (pr u).length ≤ bg tx e i) : Tr (f_X3_readLine_J73 M L (bI lk) wh) (LnC tx e L M (lnQ tx e u lk wh (i + 1))) := by
  have he := ht.1
  have hr : rOK 104 := Or.inr rfl
  unfold f_X3_readLine_J73
  refine Tr.bind (nextC hr he hR) (fun M4 h4 => ?_)
  obtain ⟨a1, a2, a3⟩ := h4
  have c4 := hc.f1 hL a2
  have up1 : bg tx e i ≤ bg tx e (i + 1) := bg_ge0 he
  rw [numWC a1, Option.bind_some, numN]
  unfold lnQ
  by_cases c : nm tx e 0 99 (i + 1) = true
  · have hn := nm_ne1 (l := 0) c (by decide)
    have hw := (nm_iff.mp c).1
    rw [if_pos c, if_pos c, if_neg hn]
    refine Tr.bind (nextC hr he a1) (fun M6 h6 => ?_)
    obtain ⟨b1, b2, b3⟩ := h6
    have c6 := c4.f1 hL b2
    have up2 := bg_up he (show wdT tx e (i + 1) ≠ 330 by rw [hw]; decide)
    rcases skipC hr he b1 312 with ⟨d1, x, x1, x2, x3, x4, x5⟩ | ⟨d1, x1⟩
    · rw [x1, Option.bind_some, x2, if_pos rfl, if_pos d1]
      have c7 := c6.f1 hL x4
      have up3 := bg_up he (show wdT tx e (i + 1 + 1) ≠ 330 by rw [d1]; decide)
      have lt := wd_lt (tx := tx) he (show wdT tx e (i + 1 + 1) ≠ 330 by rw [d1]; decide)
      have hm := coQ (tx := tx) he (pr u) (i + 1 + 1 + 1)
      have F8 : Fr [104] M x.2 := (a2.tr b2).tr x4
      have E8 : x.2.1 104 8 = M.1 104 8 := (x5.trans b3).trans a3
      refine Tr.bind (condC hL ht x3 c7.2.1 (by omega) (by omega) hm) (fun z hz => ?_)
      obtain ⟨z1, K⟩ := z
      obtain ⟨y1, y2⟩ := hz
      have y1 : FrL L x.2 K := y1
      show Tr (if z1 = true then (f_X3_readLine_J136 K L (bI lk) wh (vl tx e (i + 1))) else (some (false, K))) (LnC tx e L M (coL u wh (if lk = true then vl tx e (i + 1) else -(vl tx e (i + 1))) (coP tx e (i + 1 + 2))))
      rw [show i + 1 + 2 = i + 1 + 1 + 1 from rfl]
      generalize coP tx e (i + 1 + 1 + 1) = G at y2
      have F9 : Fr (LR7 L) M K := (F8.mono (by simp [LR7])).tr (y1.1.mono (by simp [LR7]))
      cases G with
      | inl b =>
        obtain ⟨g1, g2⟩ : z1 = false ∧ K.1 104 8 = nI (bg tx e b) := y2
        rw [g1, if_neg (show ¬ false = true by decide)]
        exact Tr.some ⟨F9, rfl, g2⟩
      | inr o =>
        obtain ⟨p, j⟩ := o
        obtain ⟨g1, g2, g3, g4, g5⟩ : z1 = true ∧ K.1 104 8 = x.2.1 104 8 ∧ PrC K L (pr u ++ p) ∧ RdS K 104 tx e j ∧ (pr u ++ p).length ≤ bg tx e j := y2
        rw [g1, if_pos rfl]
        refine Tr.weak (J136C (lk := lk) (wh := wh) hL ((y1.2 6 (by decide)).trans c7.1) g3 (c7.2.2.l hL y1) hu g4 g5) (fun z hz => ?_)
        obtain ⟨z1, z2, z3, z4⟩ := hz
        exact ⟨F9.tr z1, z2, (z3.trans g2).trans E8, z4⟩
    · rw [x1, Option.bind_some, if_neg (show ¬ false = true by decide), if_neg d1]
      have hp : PrC M6 L (pr u ++ []) := by rw [List.append_nil]; exact c6.2.1
      refine Tr.weak (J136C (lk := lk) (wh := wh) hL c6.1 hp c6.2.2 hu b1 (by rw [List.append_nil]; omega)) (fun z hz => ?_)
      exact hz.wa (a2.tr b2) (b3.trans a3)
  · rw [if_neg c, if_neg c, if_pos rfl]
    exact Tr.weak (refLn a1) (fun z hz => hz.wa a2 a3)
theorem J36C (hL : kd L = 2) (ht : TT tx e) (hR : RdS M 104 tx e i) (hc : ClS M L u) (hu : u.length < 12) (hb : (pr u).length ≤ bg tx e i) : Tr (f_X3_readLine_J36 M L (bI lk)) (LnC tx e L M (lnO tx e u lk i)) := by
  unfold f_X3_readLine_J36
  rw [numWC hR, Option.bind_some, numN]
  unfold lnO whP
  by_cases c : nm tx e 0 8 i = true
  · have hn := nm_ne1 (l := 0) c (by decide)
    rw [if_pos c, if_pos c, if_neg hn]
    exact J73C hL ht hR hc hu hb
  · rw [if_neg c, if_neg c, if_pos rfl, hR.wd.1, Option.bind_some, if_pos isW_wd]
    by_cases d : wdT tx e i = 311
    · rw [if_pos d, if_pos d]
      exact J73C hL ht hR hc hu hb
    · rw [if_neg d, if_neg d]
      exact refLn hR
theorem lineLC (hL : kd L = 2) (ht : TT tx e) (hR : RdS M 104 tx e i) (hc : ClS M L u) (hu : u.length < 12) (hb : (pr u).length ≤ bg tx e i) : Tr (f_X3_readLine M L) (LnC tx e L M (lnP tx e u i)) := by
  have he := ht.1
  have hr : rOK 104 := Or.inr rfl
  have up : bg tx e i ≤ bg tx e (i + 1) := bg_ge0 he
  unfold f_X3_readLine lnP
  rcases skipC hr he hR 309 with ⟨c, x, x1, x2, x3, x4, x5⟩ | ⟨c, x1⟩
  · rw [x1, Option.bind_some, x2, if_pos rfl, if_pos c]
    exact Tr.weak (J36C (lk := true) hL ht x3 (hc.f1 hL x4) hu (by omega)) (fun z hz => hz.wa x4 x5)
  · rw [x1, Option.bind_some, if_neg (show ¬ false = true by decide), if_neg c]
    rcases skipC hr he hR 310 with ⟨d, x, y1, y2, y3, y4, y5⟩ | ⟨d, y1⟩
    · rw [y1, Option.bind_some, y2, if_pos rfl, if_pos d]
      exact Tr.weak (J36C (lk := false) hL ht y3 (hc.f1 hL y4) hu (by omega)) (fun z hz => hz.wa y4 y5)
    · rw [y1, Option.bind_some, if_neg (show ¬ false = true by decide), if_neg d]
      exact refLn hR
def LR8 (L : Nat) : List Nat := [L, L + 1, L + 2, L + 3, L + 4, 102, 103, 104, 105, 106, 107]
/-- how the class stands behind the law's text -/
def TxL (tx : Nat → Int32) (e L : Nat) (M : Mm) (G : Nat ⊕ (List (Int32 × Int32 × List Int32) × Nat)) (z : Bool × Mm) : Prop := Fr (LR8 L) M z.2 ∧ match G with | .inl b => z.1 = false ∧ z.2.1 104 8 = nI (bg tx e b) | .inr (u2, _) => z.1 = true ∧ z.2.1 104 8 = -1 ∧ ClS z.2 L u2 ∧ (pr u2).length ≤ e
theorem readLC (hL : kd L = 2) (ht : TT tx e) (hx : TxC M tx e) : Tr (f_X3_readInto M L 2 (nI e)) (TxL tx e L M (txL tx e)) := by
  have he := ht.1
  have hLn := (lnL hL).2.2.2.2.2
  have hr : rOK 104 := Or.inr rfl
  unfold f_X3_readInto f_X2_clear
  rw [Option.bind_some, Option.bind_some, Option.bind_some]
  have cB : ClS (sI (sI M L 5 0) L 6 0) L [] := ⟨by rw [sI_at, if_pos ⟨rfl, rfl⟩]; rfl, ⟨by rw [sI_at, if_neg (by omega), sI_at, if_pos ⟨rfl, rfl⟩]; rfl, fun x hx => absurd hx (Nat.not_lt_zero _)⟩, fun k hk => absurd hk (Nat.not_lt_zero _)⟩
  have fB : Fr [L] M (sI (sI M L 5 0) L 6 0) := (Fr.sI (by simp)).tr (Fr.sI (by simp))
  generalize sI (sI M L 5 0) L 6 0 = B at cB fB
  have xB : TxC B tx e := ⟨hx.1, fun i hi => ⟨by rw [(fB 2 (by simp; omega)).1]; exact (hx.2 i hi).1, (hx.2 i hi).2⟩⟩
  refine Tr.bind (openC hr xB) (fun M1 h1 => ?_)
  obtain ⟨a1, a2, a3⟩ := h1
  have F1 : Fr (LR8 L) M M1 := (fB.mono (by simp [LR8])).tr (a2.mono (by simp [LR8]))
  have c1 : ClS M1 L [] := ⟨(congrFun (a2 L (by simp; omega)).1 6).trans cB.1, ⟨(congrFun (a2 L (by simp; omega)).1 5).trans cB.2.1.1, fun x hx => absurd hx (Nat.not_lt_zero _)⟩, fun k hk => absurd hk (Nat.not_lt_zero _)⟩
  rw [Option.bind_some, a1.wd.1, if_pos isW_wd]
  unfold txL gR0
  by_cases c : wdT tx e 0 = 330
  · rw [if_pos c, if_pos c]
    exact Tr.some ⟨F1, rfl, a3, c1, Nat.zero_le _⟩
  · rw [if_neg c, if_neg c]
    generalize hG : gF tx e (lnP tx e) 12 0 [] 0 = G
    refine Tr.bind (Q := fun r : (Bool × Mm) ⊕ Mm => Tr (Sum.elim (fun v => some v) (fun e_11 => (some (f_X7_refuse e_11 104)).bind (fun rr13 => some (rr13.1, rr13.2))) r) (TxL tx e L M G)) ?_ (fun r hr2 => hr2)
    have ref : ∀ (N : Mm) j, RdS N 104 tx e j → Fr (LR8 L) M N → G = .inl j → Tr ((some (f_X7_refuse N 104)).bind (fun rr13 => some (rr13.1, rr13.2))) (TxL tx e L M G) := fun N j h1 h2 h3 => by
      rw [refuseC h1, Option.bind_some, h3]
      refine Tr.some ⟨h2.tr (Fr.sI (by simp [LR8])), rfl, ?_⟩
      show (sI N 104 8 _).1 104 8 = _
      rw [sI_at, if_pos ⟨rfl, rfl⟩]
    refine lp0 (fun k (N : Mm) => (N, nI k)) 12 (fun k N => ∃ u i, u.length = k ∧ bdU u ∧ RdS N 104 tx e i ∧ ClS N L u ∧ (pr u).length ≤ bg tx e i ∧ gF tx e (lnP tx e) (12 - k) k u i = G ∧ N.1 104 8 = -1 ∧ Fr (LR8 L) M N) (by decide) M1 rfl ⟨[], 0, rfl, fun l hl => absurd hl List.not_mem_nil, a1, c1, Nat.zero_le _, hG, a3, F1⟩ (fun k N hk hP => ?_) (fun N hP => ?_)
    · obtain ⟨u, i, p0, p1, p2, p3, p4, p5, p6, p7⟩ := hP
      show Tr (f_X3_readInto_L31 N L (nI k)) _
      unfold f_X3_readInto_L31
      rw [if_neg (show ¬ (12 : Int32) ≤ nI k by rw [l_12, nI_leI (by omega) (by omega)]; omega)]
      refine Tr.bind (lineLC hL ht p2 p3 (by omega) p4) (fun y hy => ?_)
      obtain ⟨y1, N2⟩ := y
      obtain ⟨y2, y3⟩ := hy
      have y2 : Fr (LR7 L) N N2 := y2
      have F3 : Fr (LR8 L) M N2 := p7.tr (y2.mono (by simp [LR7, LR8]))
      rw [show 12 - k = (11 - k) + 1 by omega, gF_succ] at p5
      show Tr (if y1 = true then ((some (gR N2 104 5)).bind (fun q6 => if isW q6 = true then (if q6 = 330 then (some (.inr (.inl (true, N2)))) else ((f_X7_skip N2 104 322).bind (fun rr8 => if rr8.1 = true then (some (.inl (rr8.2, (nI k + 1)))) else ((some (f_X7_refuse rr8.2 104)).bind (fun rr10 => some (.inr (.inl (rr10.1, rr10.2)))))))) else none)) else (some (.inr (.inl (false, N2)))) : Option ((Mm × Int32) ⊕ ((Bool × Mm) ⊕ Mm))) _
      cases hl : lnP tx e u i with
      | inl b =>
        rw [hl] at y3 p5
        obtain ⟨y3, y4⟩ : y1 = false ∧ N2.1 104 8 = nI (bg tx e b) := y3
        rw [y3, if_neg (show ¬ false = true by decide)]
        refine Tr.some (Or.inr ⟨_, rfl, Tr.some ⟨F3, ?_⟩⟩)
        rw [← p5]
        exact ⟨rfl, y4⟩
      | inr o =>
        obtain ⟨u3, j⟩ := o
        obtain ⟨bd, len⟩ := lnP_bd (r := .inl 0) p1 hl
        rw [hl] at y3 p5
        obtain ⟨y3, y4, y5, y6, y7⟩ : y1 = true ∧ N2.1 104 8 = N.1 104 8 ∧ ClS N2 L u3 ∧ RdS N2 104 tx e j ∧ (pr u3).length ≤ bg tx e j := y3
        have p5 : (if wdT tx e j = 330 then Sum.inr (u3, k + 1) else if wdT tx e j = 322 then gF tx e (lnP tx e) (11 - k) (k + 1) u3 (j + 1) else .inl j) = G := p5
        rw [y3, if_pos rfl, Option.bind_some, y6.wd.1, if_pos isW_wd]
        by_cases c1 : wdT tx e j = 330
        · rw [if_pos c1] at p5
          rw [if_pos c1]
          refine Tr.some (Or.inr ⟨_, rfl, Tr.some ⟨F3, ?_⟩⟩)
          rw [← p5]
          exact ⟨rfl, y4.trans p6, y5, by have := bg_le (tx := tx) he j; omega⟩
        · rw [if_neg c1] at p5
          rw [if_neg c1]
          rcases skipC hr he y6 322 with ⟨c2, z, z1, z2, z3, z4, z5⟩ | ⟨c2, z1⟩
          · rw [if_pos c2] at p5
            rw [z1, Option.bind_some, z2, if_pos rfl, l_1, nI_add]
            have up := bg_up he c1
            refine Tr.some (Or.inl ⟨z.2, rfl, u3, j + 1, by omega, bd, z3, y5.f1 hL z4, by omega, ?_, (z5.trans y4).trans p6, F3.tr (z4.mono (by simp [LR8]))⟩)
            rw [show 12 - (k + 1) = 11 - k by omega]; exact p5
          · rw [if_neg c2] at p5
            rw [z1, Option.bind_some, if_neg (show ¬ false = true by decide)]
            have := ref N2 j y6 F3 p5.symm
            rw [refuseC y6, Option.bind_some] at this ⊢
            exact Tr.some (Or.inr ⟨_, rfl, this⟩)
    · obtain ⟨u, i, p0, p1, p2, p3, p4, p5, p6, p7⟩ := hP
      show Tr (f_X3_readInto_L31 N L (nI 12)) _
      unfold f_X3_readInto_L31
      rw [if_pos (by decide)]
      exact Tr.some ⟨_, rfl, ref N i p2 p7 p5.symm⟩
end LAWN
