/-! the reference reads an atom, and what is joined of atoms -/
section LAWA
variable {tx : Nat → Int32} {e i j k r b N2 f c a cc d n q w lev dd : Nat} {M N K : Mm} {p p2 l2 : List Int32} {x y T o s mk op : Int32} {P : Nat → Int32} {v v2 : Bool} {sub : Nat → GP} {F : Mm → Option (Bool × Mm)} {G : GP}
theorem CR.wa (hw : WA M N) (h13 : N.1 109 13 = M.1 109 13) {z : Bool × Mm} (h : CR P mk tx e N lev G cc z) : CR P mk tx e M lev G cc z := by
  obtain ⟨h1, h2⟩ := h
  refine ⟨hw.tr h1, ?_⟩
  cases G with
  | inl b => exact h2
  | inr o =>
    obtain ⟨p, j⟩ := o
    exact ⟨h2.1, h2.2.1.trans h13, h2.2.2⟩
theorem CR.mono {lev2 c2 : Nat} {z : Bool × Mm} (h : CR P mk tx e M lev G cc z) (hl : lev2 ≤ lev) (hc : cc ≤ c2) : CR P mk tx e M lev2 G c2 z := by
  obtain ⟨h1, h2⟩ := h
  refine ⟨h1, ?_⟩
  cases G with
  | inl b => exact Flc.mono h2 hc
  | inr o =>
    obtain ⟨p, j⟩ := o
    exact ⟨h2.1, h2.2.1, h2.2.2.1, h2.2.2.2.mono hl⟩
theorem J139R {t : Int32} (hx : TxR N tx e) (hf : N.1 109 12 = -1) (h11 : N.1 109 11 = nI a) (ha : AtR (sAt N (a + 1)) tx e (j + 1)) (hP : Evn P mk N) (hp : ∀ op ∈ p, isO op) (hv : y = smF P 0 p) (ht : (t = 0 ∧ v = false) ∨ (t = 1 ∧ v = true)) (hs : suP tx e 400 [] (j + 1) = G) : Tr (f_X10_plain_J139 N y t) (CR P mk tx e N 30 (match (generalizing := false) G with | .inl b => .inl b | .inr (p2, j2) => .inr (p ++ [1020] ++ p2 ++ [if v = true then 1021 else 1022], j2)) 0) := by
  unfold f_X10_plain_J139
  rw [show gI N 109 11 = nI a from h11, l_1, nI_add, show sI N 109 11 (nI (a + 1)) = sAt N (a + 1) from rfl, Option.bind_some]
  obtain ⟨G2, e2, hT⟩ := smR hx.at ((sAt_ne (by decide)).trans hf) ha ((WA.at (M := N) (a := a + 1)).ev hP)
  rw [hs] at e2
  subst e2
  refine Tr.bind hT (fun z hz => ?_)
  obtain ⟨z1, K⟩ := z
  obtain ⟨h1, h2⟩ := hz
  have h1 : WA N K := WA.at.tr h1
  have all : ∀ Q : Bool × Mm → Prop, (∀ b, Q (b, K)) → Tr (if t = 0 then (if y ≤ z1 then some (false, K) else some (true, K)) else (if z1 ≤ y then some (false, K) else some (true, K))) Q := fun Q hQ => by
    by_cases c1 : t = 0
    · rw [if_pos c1]
      by_cases c2 : y ≤ z1
      · rw [if_pos c2]; exact Tr.some (hQ _)
      · rw [if_neg c2]; exact Tr.some (hQ _)
    · rw [if_neg c1]
      by_cases c2 : z1 ≤ y
      · rw [if_pos c2]; exact Tr.some (hQ _)
      · rw [if_neg c2]; exact Tr.some (hQ _)
  cases G with
  | inl b =>
    exact all _ (fun b2 => ⟨h1, h2⟩)
  | inr o =>
    obtain ⟨p2, j2⟩ := o
    obtain ⟨g1, g2, g3, g4⟩ : K.1 109 12 = -1 ∧ K.1 109 13 = (sAt N (a + 1)).1 109 13 ∧ AtR K tx e j2 ∧ z1 = smF P 0 p2 := h2
    have g2 := g2.trans (sAt_ne (by decide))
    have hp2 := suP_o _ _ _ _ _ (fun op h => absurd h List.not_mem_nil) hs
    rcases ht with ⟨rfl, rfl⟩ | ⟨rfl, rfl⟩
    · rw [if_pos rfl]
      have hE := Ev.more (P := P) (mk := mk) hp hp2
      rw [← hv, ← g4] at hE
      by_cases c2 : y ≤ z1
      · rw [if_pos c2]
        rw [decide_eq_true c2] at hE
        exact Tr.some ⟨h1, g1, g2, g3, hE⟩
      · rw [if_neg c2]
        rw [decide_eq_false c2] at hE
        exact Tr.some ⟨h1, g1, g2, g3, hE⟩
    · rw [if_neg (show ¬ (1 : Int32) = 0 by decide)]
      have hE := Ev.less (P := P) (mk := mk) hp hp2
      rw [← hv, ← g4] at hE
      by_cases c2 : z1 ≤ y
      · rw [if_pos c2]
        rw [decide_eq_true c2] at hE
        exact Tr.some ⟨h1, g1, g2, g3, hE⟩
      · rw [if_neg c2]
        rw [decide_eq_false c2] at hE
        exact Tr.some ⟨h1, g1, g2, g3, hE⟩
theorem cmP_bad (hs : suP tx e 400 [] i = .inl b) : cmP tx e i = .inl b := by unfold cmP; rw [hs]
theorem cmP_ok (hs : suP tx e 400 [] i = .inr (p, j)) : cmP tx e i = cm2 p (wdT tx e j) j (suP tx e 400 [] (j + 1)) := by unfold cmP; rw [hs]
theorem cmR (h : TxR M tx e) (hf : M.1 109 12 = -1) (ha : AtR M tx e i) (hP : Evn P mk M) : Tr (f_X10_plain_J79 M (-1)) (CR P mk tx e M 30 (cmP tx e i) 0) := by
  have he := h.1
  have hbi : ∀ i, bg tx e i ≤ e := fun i => bg_le he i
  unfold f_X10_plain_J79
  rw [if_pos rfl]
  obtain ⟨G, hs, hT⟩ := smR h hf ha hP
  refine Tr.bind hT (fun z hz => ?_)
  obtain ⟨y, N⟩ := z
  obtain ⟨h1, h2⟩ := hz
  have h1 : WA M N := h1
  cases G with
  | inl b =>
    rw [cmP_bad hs]
    have h2 : Flc N e (bg tx e b) 0 := h2
    rw [if_neg h2.ne]
    exact Tr.some ⟨h1, h2⟩
  | inr o =>
    obtain ⟨p, j⟩ := o
    obtain ⟨g1, g2, g3, g4⟩ : N.1 109 12 = -1 ∧ N.1 109 13 = M.1 109 13 ∧ AtR N tx e j ∧ y = smF P 0 p := h2
    rw [cmP_ok hs]
    generalize hs2 : suP tx e 400 [] (j + 1) = G2
    have hp := suP_o _ _ _ _ _ (fun op h => absurd h List.not_mem_nil) hs
    have xN := h1.txr h
    have eN := h1.ev hP
    obtain ⟨t1, t2, t3⟩ := signT xN g3 (j := 25) (by decide) (by decide) s_law.2.2.2.2.2.2.2.2.1
    rw [show gI N 109 12 = -1 from g1, if_pos rfl, t1, Option.bind_some]
    unfold cm2
    have fA : (sAt N (bg tx e j)).1 109 12 = -1 := (sAt_ne (by decide)).trans g1
    have wA : WA M (sAt N (bg tx e j)) := h1.tr WA.at
    have dA : (sAt N (bg tx e j)).1 109 13 = M.1 109 13 := (sAt_ne (by decide)).trans g2
    by_cases c1 : wdT tx e j = 325
    · obtain ⟨t4, t5⟩ := t3 c1
      rw [decide_eq_true (show wdT tx e j = 300 + 25 from c1), if_pos rfl, if_pos (Or.inl c1)]
      refine Tr.weak (J139R (v := true) (t := bI true) xN.at fA at_sAt (by rw [sAt_sAt]; exact t5) (wA.ev hP) hp g4 (Or.inr ⟨rfl, rfl⟩) hs2) (fun z hz => ?_)
      rw [if_pos c1]
      exact CR.wa wA dA hz
    · rw [decide_eq_false (show ¬ wdT tx e j = 300 + 25 from c1), if_neg (show ¬ false = true by decide)]
      obtain ⟨u1, u2, u3⟩ := signT xN.at t2 (j := 26) (by decide) (by decide) s_law.2.2.2.2.2.2.2.2.2.1
      rw [u1, Option.bind_some]
      rw [sAt_sAt] at u2 u3 ⊢
      by_cases c2 : wdT tx e j = 326
      · obtain ⟨t4, t5⟩ := u3 c2
        rw [decide_eq_true (show wdT tx e j = 300 + 26 from c2), if_pos rfl, if_pos (Or.inr c2)]
        refine Tr.weak (J139R (v := false) (t := bI false) xN.at fA at_sAt (by rw [sAt_sAt]; exact t5) (wA.ev hP) hp g4 (Or.inl ⟨rfl, rfl⟩) hs2) (fun z hz => ?_)
        rw [if_neg c1]
        exact CR.wa wA dA hz
      · rw [decide_eq_false (show ¬ wdT tx e j = 300 + 26 from c2), if_neg (show ¬ false = true by decide), if_neg (by omega)]
        rw [show gI (sAt N (bg tx e j)) 109 11 = nI (bg tx e j) from at_sAt, wrongR fA, Option.bind_some]
        exact Tr.some ⟨wA.tr (WA.s9 (Or.inr (Or.inl rfl))), Flc.of he (hbi j) (hbi j)⟩
theorem plainR (h : TxR M tx e) (hf : M.1 109 12 = -1) (ha : AtR M tx e i) (hP : Evn P mk M) : Tr (f_X10_plain M) (CR P mk tx e M 30 (plP tx e i) 0) := by
  have he := h.1
  rw [plain_ch]
  unfold plP
  rcases ch6_U (F := f_X10_plain_J79) (q := 423) (D := fun c => decide (mkK tx e i = some c)) h ha (fun c hc N hx2 ha2 => lettT hx2 ha2 hc) with ⟨d, a, g1, g2, g3, g4, g5⟩ | ⟨g1, g2⟩
  · rw [g4, of_decide_eq_true g3]
    unfold f_X10_plain_J79
    rw [if_neg (by rw [nI_ne_m1 (by omega)]; exact not_false)]
    refine Tr.some ⟨WA.at, (sAt_ne (by decide)).trans hf, sAt_ne (by decide), g5, ?_⟩
    have hmk : gI (sAt M a) 109 16 = mk := (sAt_ne (by decide)).trans hP.2
    have : f_X10_isOf (sAt M a) (gI (sAt M a) 109 16) (nI d) = bt mk d := by
      unfold f_X10_isOf
      rw [hmk]
      have hb := bt_tst (x := mk) (v := d) (by omega)
      by_cases c : bt mk d = true
      · rw [if_pos (show ((mk >>> (nI d &&& 31)) &&& 1) = 1 from hb.mpr c), c]
      · rw [if_neg (show ¬ ((mk >>> (nI d &&& 31)) &&& 1) = 1 from fun h => c (hb.mp h)), Bool.eq_false_iff.mpr c]
    show Ev P mk 30 [nI (1010 + d)] (f_X10_isOf (sAt M a) (gI (sAt M a) 109 16) (nI d))
    rw [this]
    exact Ev.mark g1
  · have hmk : mkK tx e i = none := by
      cases hm : mkK tx e i with
      | none => rfl
      | some k => exact absurd hm (of_decide_eq_false (g1 k (mkK_ok hm).1))
    rw [g2, hmk]
    have ha2 : AtR (sAt M (bg tx e i)) tx e i := (placeT h ha).2
    exact Tr.weak (cmR h.at ((sAt_ne (by decide)).trans hf) ha2 (WA.at.ev hP)) (fun z hz => CR.wa WA.at (sAt_ne (by decide)) hz)
/-- a function that reads a piece -/
def SubR (P : Nat → Int32) (mk : Int32) (tx : Nat → Int32) (e lev cc dd : Nat) (F : Mm → Option (Bool × Mm)) (sub : Nat → GP) : Prop := ∀ M i, TxR M tx e → M.1 109 12 = -1 → AtR M tx e i → Evn P mk M → M.1 109 13 = nI dd → Tr (F M) (CR P mk tx e M lev (sub i) cc)
theorem SubR.mono {lev2 c2 : Nat} (h : SubR P mk tx e lev cc dd F sub) (hl : lev2 ≤ lev) (hc : cc ≤ c2) : SubR P mk tx e lev2 c2 dd F sub := fun M i h1 h2 h3 h4 h5 => Tr.weak (h M i h1 h2 h3 h4 h5) (fun z hz => hz.mono hl hc)
def gLp (F : Mm → Option (Bool × Mm)) (q : Nat) (g : Bool → Bool → Bool) (M : Mm) (v1 : Int32) : Option ((Mm × Int32) ⊕ (Mm × Int32)) := if gI M 109 12 = -1 then (f_X10_says M q).bind (fun rr4 => if rr4.1 = true then (F rr4.2).bind (fun rr6 => some (.inl (rr6.2, bI (g (decide (v1 = 1)) rr6.1)))) else some (.inr (rr4.2, v1))) else some (.inr (M, v1))
theorem chainR {g : Bool → Bool → Bool} {L : Mm → Int32 → Option ((Mm × Int32) ⊕ (Mm × Int32))} (he : e ≤ 400) (hw : w < 22) (hq : isT q = true) (hs0 : str q = sw1 w) (hL : ∀ M v, L M (bI v) = gLp F q g M (bI v)) (hg : ∀ i p j, sub i = .inr (p, j) → i < j) (hF : SubR P mk tx e (lev + 1) cc dd F sub) (hE : ∀ p p2 v v2, Ev P mk lev p v → Ev P mk (lev + 1) p2 v2 → Ev P mk lev (p ++ p2 ++ [op]) (g v v2)) : SubR P mk tx e lev cc dd (fun M => (F M).bind (fun rr2 => (loop FU (fun a_7 => L a_7.1 a_7.2) (rr2.2, (bI rr2.1))).bind (fun e_7 => if e_7.2 = 0 then some (false, e_7.1) else if e_7.2 = 1 then some (true, e_7.1) else none))) (chP tx e sub (300 + w) op) := by
  intro M i h1 h2 h3 h4 h5
  refine Tr.bind (hF M i h1 h2 h3 h4 h5) (fun z hz => ?_)
  obtain ⟨b0, N0⟩ := z
  obtain ⟨w0, hz⟩ := hz
  generalize hG : (match sub i with | .inl b => .inl b | .inr (p, j) => chL tx e sub (300 + w) op 401 p j : GP) = G
  have hG2 : chP tx e sub (300 + w) op i = G := by rw [← hG]; rfl
  rw [hG2]
  have lp : ∀ m s, m < 9000 → (WA M s.1 ∧ ((s.1.1 109 12 = -1 ∧ s.1.1 109 13 = nI dd ∧ ∃ p j v, AtR s.1 tx e j ∧ s.2 = bI v ∧ Ev P mk lev p v ∧ 401 ≤ m + j ∧ chL tx e sub (300 + w) op m p j = G) ∨ ∃ b v, G = .inl b ∧ Flc s.1 e (bg tx e b) cc ∧ s.2 = bI v)) → Tr (loop FU (fun a_7 => L a_7.1 a_7.2) s) (fun z : Mm × Int32 => ∃ v, z.2 = bI v ∧ CR P mk tx e M lev G cc (v, z.1)) := fun m s hm hs => by
    refine lpV (fun m (s : Mm × Int32) => WA M s.1 ∧ ((s.1.1 109 12 = -1 ∧ s.1.1 109 13 = nI dd ∧ ∃ p j v, AtR s.1 tx e j ∧ s.2 = bI v ∧ Ev P mk lev p v ∧ 401 ≤ m + j ∧ chL tx e sub (300 + w) op m p j = G) ∨ ∃ b v, G = .inl b ∧ Flc s.1 e (bg tx e b) cc ∧ s.2 = bI v)) (fun m s hs => ?_) FU m s (by show m < 10000; omega) hs
    obtain ⟨N, y⟩ := s
    obtain ⟨w1, w2⟩ := hs
    have w1 : WA M N := w1
    show Tr (L N y) _
    rcases w2 with ⟨f1, f2, p, j, v, g1, g2, g3, g4, g5⟩ | ⟨b, v, g1, g2, g3⟩
    · have f1 : N.1 109 12 = -1 := f1
      have f2 : N.1 109 13 = nI dd := f2
      have g1 : AtR N tx e j := g1
      have g2 : y = bI v := g2
      have xN := w1.txr h1
      obtain ⟨a, a1, a2, a3, a4⟩ := saysT xN g1 hw hq hs0
      rw [g2, hL]
      unfold gLp
      rw [show gI N 109 12 = -1 from f1, if_pos rfl, a2, Option.bind_some]
      by_cases c : wdT tx e j = 300 + w
      · rw [if_pos c] at a3
        rw [decide_eq_true c, if_pos rfl]
        have hm1 : j < 400 := wd_lt he (by rw [c]; omega)
        obtain ⟨m', rfl⟩ : ∃ m', m = m' + 1 := ⟨m - 1, by omega⟩
        rw [chL, if_pos c] at g5
        have wA : WA M (sAt N a) := w1.tr WA.at
        refine Tr.bind (hF (sAt N a) (j + 1) xN.at ((sAt_ne (by decide)).trans f1) a3 (wA.ev h4) ((sAt_ne (by decide)).trans f2)) (fun z hz => ?_)
        obtain ⟨b2, N2⟩ := z
        obtain ⟨z1, z2⟩ := hz
        have z1 : WA M N2 := wA.tr z1
        cases hq2 : sub (j + 1) with
        | inl bb =>
          rw [hq2] at z2 g5
          exact Tr.some (Or.inl ⟨0, (N2, bI (g (decide (bI v = 1)) b2)), rfl, ⟨z1, Or.inr ⟨bb, _, g5.symm, z2, rfl⟩⟩, by omega⟩)
        | inr o =>
          obtain ⟨p2, j2⟩ := o
          rw [hq2] at z2 g5
          obtain ⟨k1, k2, k3, k4⟩ : N2.1 109 12 = -1 ∧ N2.1 109 13 = (sAt N a).1 109 13 ∧ AtR N2 tx e j2 ∧ Ev P mk (lev + 1) p2 b2 := z2
          have hgt := hg _ _ _ hq2
          have hv : decide (bI v = 1) = v := by cases v <;> rfl
          rw [hv]
          exact Tr.some (Or.inl ⟨m', (N2, bI (g v b2)), rfl, ⟨z1, Or.inl ⟨k1, k2.trans ((sAt_ne (by decide)).trans f2), p ++ p2 ++ [op], j2, g v b2, k3, rfl, hE _ _ _ _ g3 k4, by omega, g5⟩⟩, by omega⟩)
      · rw [if_neg c] at a3
        rw [decide_eq_false c, if_neg (show ¬ false = true by decide)]
        have hG2 : G = .inr (p, j) := by
          cases m with
          | zero => exact g5.symm
          | succ m => rw [chL, if_neg c] at g5; exact g5.symm
        refine Tr.some (Or.inr ⟨_, rfl, v, rfl, w1.tr WA.at, ?_⟩)
        rw [hG2]
        exact ⟨(sAt_ne (by decide)).trans f1, ((sAt_ne (by decide)).trans f2).trans h5.symm, a3, g3⟩
    · have g2 : Flc N e (bg tx e b) cc := g2
      have g3 : y = bI v := g3
      rw [g3, hL]
      unfold gLp
      rw [if_neg g2.ne]
      refine Tr.some (Or.inr ⟨_, rfl, v, rfl, w1, ?_⟩)
      rw [g1]; exact g2
  have st : WA M N0 ∧ ((N0.1 109 12 = -1 ∧ N0.1 109 13 = nI dd ∧ ∃ p j v, AtR N0 tx e j ∧ bI b0 = bI v ∧ Ev P mk lev p v ∧ 401 ≤ 401 + j ∧ chL tx e sub (300 + w) op 401 p j = G) ∨ ∃ b v, G = .inl b ∧ Flc N0 e (bg tx e b) cc ∧ bI b0 = bI v) := by
    refine ⟨w0, ?_⟩
    cases hq2 : sub i with
    | inl bb =>
      rw [hq2] at hz hG
      exact Or.inr ⟨bb, b0, hG.symm, hz, rfl⟩
    | inr o =>
      obtain ⟨p, j⟩ := o
      rw [hq2] at hz hG
      obtain ⟨k1, k2, k3, k4⟩ : N0.1 109 12 = -1 ∧ N0.1 109 13 = M.1 109 13 ∧ AtR N0 tx e j ∧ Ev P mk (lev + 1) p b0 := hz
      exact Or.inl ⟨k1, k2.trans h5, p, j, b0, k3, rfl, k4.mono (by omega), by omega, hG⟩
  refine Tr.bind (lp 401 (N0, bI b0) (by decide) st) (fun z hz => ?_)
  obtain ⟨v, z1, z2⟩ := hz
  rw [z1]
  cases v with
  | false => rw [if_pos (show bI false = 0 from rfl)]; exact Tr.some z2
  | true => rw [if_neg (show ¬ bI true = 0 by decide), if_pos (show bI true = 1 from rfl)]; exact Tr.some z2
end LAWA
