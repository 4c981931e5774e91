/-! the reference reads a text -/
section READ
variable {M N : Mm} {e p r i j k n q B l a f : Nat} {tx : Nat → Int32} {x y v b lo hi v1 : Int32} {w Lm : Nat} {m m2 : Nat → Int32} {σ : Type}
theorem wd330 (he : e ≤ 400) : (wdT tx e i = 330) ↔ bg tx e i = e := by
  have hb := bg_le (tx := tx) he i
  rcases wd_cases (tx := tx) he (bg tx e i) with ⟨c1, c2, c3, c4, c5⟩ | ⟨c1, c2, c3, c4, c5, c6⟩ | ⟨c1, c2, c3, c4, c5, c6, c7⟩ | ⟨c1, c2, c3, c4, c5, c6, c7⟩
  · exact ⟨fun _ => by omega, fun _ => c2⟩
  · refine ⟨fun h => ?_, fun h => by omega⟩
    rw [show wdT tx e i = wdP tx e (bg tx e i) from rfl, c4] at h
    exact absurd h (spl_n328 c3).2
  · refine ⟨fun h => ?_, fun h => by omega⟩
    rw [show wdT tx e i = wdP tx e (bg tx e i) from rfl, c4] at h
    omega
  · refine ⟨fun h => ?_, fun h => by omega⟩
    rw [show wdT tx e i = wdP tx e (bg tx e i) from rfl, c4] at h
    exact absurd h (spl_n328 (by omega)).2
/-- lines, one behind another -/
def gF (tx : Nat → Int32) (e : Nat) (ln : σ → Nat → Nat ⊕ (σ × Nat)) : Nat → Nat → σ → Nat → Nat ⊕ (σ × Nat)
  | 0, _, _, i => .inl i
  | k + 1, c, s, i => match ln s i with | .inl b => .inl b | .inr (s2, j) => if wdT tx e j = 330 then .inr (s2, c + 1) else if wdT tx e j = 322 then gF tx e ln k (c + 1) s2 (j + 1) else .inl j
theorem gF_succ {ln : σ → Nat → Nat ⊕ (σ × Nat)} {c : Nat} {s : σ} : gF tx e ln (k + 1) c s i = match ln s i with | .inl b => .inl b | .inr (s2, j) => if wdT tx e j = 330 then .inr (s2, c + 1) else if wdT tx e j = 322 then gF tx e ln k (c + 1) s2 (j + 1) else .inl j := rfl
def gR0 (tx : Nat → Int32) (e : Nat) (ln : σ → Nat → Nat ⊕ (σ × Nat)) (Lm : Nat) (s : σ) : Nat ⊕ (σ × Nat) := if wdT tx e 0 = 330 then .inr (s, 0) else gF tx e ln Lm 0 s 0
theorem s_59 : (59 : Int32) = (sw1 22).getD 0 0 := by decide +kernel
theorem readT {ln : σ → Nat → Nat ⊕ (σ × Nat)} {St : σ → Mm → Prop} {W : Mm → Mm → Prop} {LF : Mm → Option Mm} (hLm : Lm < 100) (hW0 : ∀ M, W M M) (hWt : ∀ M N K, W M N → W N K → W M K) (hWx : ∀ M N, TxR M tx e → W M N → TxR N tx e) (hWs : ∀ M c x, c = 11 ∨ c = 12 → W M (sI M 109 c x)) (hSt : ∀ s N a, St s N → St s (sAt N a))
    (hv : ∀ M v2 v3, f_X10_read_L23 M v1 v2 v3 = if v2 = 0 then some (.inr (M, v3)) else if gI M 109 12 = -1 then (f_X10_skip M).bind (fun M2 => if v3 = nI Lm then (some (f_X10_wrong M2 (gI M2 109 11))).bind (fun M10 => f_X10_read_J23_80 M10 v1 v2 v3) else (LF M2).bind (fun M3 => f_X10_read_J23_80 M3 v1 v2 v3)) else some (.inr (M, v3)))
    (hl : ∀ N s i, TxR N tx e → N.1 109 12 = -1 → AtR N tx e i → St s N → Tr (LF N) (fun K => W N K ∧ match ln s i with | .inl b => Fl K e (bg tx e b) | .inr (s2, j) => K.1 109 12 = -1 ∧ St s2 K ∧ AtR K tx e j))
    {s0 : σ} (hx : TxR M tx e) (hf : M.1 109 12 = -1) (ha : AtR M tx e 0) (hs : St s0 M) : Tr (f_X10_read M v1) (fun r => W M r.2 ∧ match gR0 tx e ln Lm s0 with | .inl b => Fl r.2 e (bg tx e b) | .inr (s2, c) => r.2.1 109 12 = -1 ∧ St s2 r.2 ∧ r.1 = nI c) := by
  have he := hx.1
  obtain ⟨pl, pa⟩ := placeT hx ha
  have hbi : ∀ i, bg tx e i ≤ e := fun i => bg_le he i
  have WA : ∀ N a, W N (sAt N a) := fun N a => hWs N 11 _ (Or.inl rfl)
  unfold f_X10_read gR0
  rw [pl, Option.bind_some, show gI (sAt M (bg tx e 0)) 109 11 = nI (bg tx e 0) from at_sAt, show gI (sAt M (bg tx e 0)) 109 10 = nI e from (sAt_ne (by decide)).trans hx.2.1]
  have f1 : (sAt M (bg tx e 0)).1 109 12 = -1 := (sAt_ne (by decide)).trans hf
  have x1 : TxR (sAt M (bg tx e 0)) tx e := hx.at
  have s1 : St s0 (sAt M (bg tx e 0)) := hSt _ _ _ hs
  have w1 : W M (sAt M (bg tx e 0)) := WA _ _
  generalize sAt M (bg tx e 0) = M1 at pa f1 x1 s1 w1
  by_cases c : wdT tx e 0 = 330
  · have hb := (wd330 he).mp c
    rw [if_pos (by rw [hb, nI_leI (by omega) (by omega)]; omega), if_pos c]
    unfold f_X10_read_J20
    have : loop FU (fun a_11 => f_X10_read_L23 a_11.1 v1 a_11.2.1 a_11.2.2) (M1, 0, 0) = some (M1, 0) := by
      refine (lp0 (Q := fun r : Mm × Int32 => r = (M1, 0)) (fun k (_ : Unit) => (M1, (0 : Int32), (0 : Int32))) 1 (fun _ _ => True) (by decide) () rfl trivial (fun k _ _ _ => ?_) (fun _ _ => ?_)).eq
      · exact ⟨.inr (M1, 0), by show f_X10_read_L23 M1 v1 0 0 = _; rw [hv, if_pos rfl], Or.inr ⟨_, rfl, rfl⟩⟩
      · exact ⟨.inr (M1, 0), by show f_X10_read_L23 M1 v1 0 0 = _; rw [hv, if_pos rfl], _, rfl, rfl⟩
    rw [this, Option.bind_some]
    exact Tr.some ⟨w1, f1, s1, rfl⟩
  · have hb : bg tx e 0 < e := by
      have := hbi 0
      refine Classical.byContradiction (fun hc => c ((wd330 he).mpr (by omega)))
    rw [if_neg (by rw [nI_leI (by omega) (by omega)]; omega), if_neg c]
    unfold f_X10_read_J20
    generalize hG : gF tx e ln Lm 0 s0 0 = G
    refine Tr.bind (Q := fun z : Mm × Int32 => W M z.1 ∧ match (generalizing := false) G with | .inl b => Fl z.1 e (bg tx e b) | .inr (s2, c) => z.1.1 109 12 = -1 ∧ St s2 z.1 ∧ z.2 = nI c) ?_ (fun z hz => Tr.some hz)
    refine lp0 (fun k (s : Mm × Int32) => (s.1, s.2, nI k)) (Lm + 1) (fun k s => W M s.1 ∧ TxR s.1 tx e ∧ ((k ≤ Lm ∧ s.2 = 1 ∧ s.1.1 109 12 = -1 ∧ ∃ u i, AtR s.1 tx e i ∧ St u s.1 ∧ gF tx e ln (Lm - k) k u i = G) ∨ (s.2 = 0 ∧ s.1.1 109 12 = -1 ∧ ∃ u, G = .inr (u, k) ∧ St u s.1) ∨ ∃ b, G = .inl b ∧ Fl s.1 e (bg tx e b))) (by omega) (M1, 1) rfl ⟨w1, x1, Or.inl ⟨Nat.zero_le _, rfl, f1, s0, 0, pa, s1, hG⟩⟩ (fun k s hk hP => ?_) (fun s hP => ?_)
    · obtain ⟨N, go⟩ := s
      obtain ⟨wN, xN, hP⟩ := hP
      have wN : W M N := wN
      have xN : TxR N tx e := xN
      show Tr (f_X10_read_L23 N v1 go (nI k)) _
      rw [hv]
      rcases hP with ⟨p0, p1, p2, u, i, p3, p4, p5⟩ | ⟨p1, p2, u, p3, p4⟩ | ⟨b, p1, p2⟩
      · have p1 : go = 1 := p1
        have p2 : N.1 109 12 = -1 := p2
        have p3 : AtR N tx e i := p3
        have p4 : St u N := p4
        subst p1
        obtain ⟨sl, sa⟩ := placeT xN p3
        rw [if_neg (by decide), show gI N 109 12 = -1 from p2, if_pos rfl, sl, Option.bind_some]
        have xA : TxR (sAt N (bg tx e i)) tx e := xN.at
        have fA : (sAt N (bg tx e i)).1 109 12 = -1 := (sAt_ne (by decide)).trans p2
        have gA11 : gI (sAt N (bg tx e i)) 109 11 = nI (bg tx e i) := at_sAt
        have wA : W M (sAt N (bg tx e i)) := hWt _ _ _ wN (WA _ _)
        have sA : St u (sAt N (bg tx e i)) := hSt _ _ _ p4
        generalize sAt N (bg tx e i) = A at sa xA fA gA11 wA sA
        -- behind a fault
        have badJ : ∀ K b, W M K → TxR K tx e → G = .inl b → Fl K e (bg tx e b) → Tr (f_X10_read_J23_80 K v1 1 (nI k)) (fun x => (∃ s' : Mm × Int32, x = .inl (s'.1, s'.2, nI (k + 1)) ∧ W M s'.1 ∧ TxR s'.1 tx e ∧ ((k + 1 ≤ Lm ∧ s'.2 = 1 ∧ s'.1.1 109 12 = -1 ∧ ∃ u i, AtR s'.1 tx e i ∧ St u s'.1 ∧ gF tx e ln (Lm - (k + 1)) (k + 1) u i = G) ∨ (s'.2 = 0 ∧ s'.1.1 109 12 = -1 ∧ ∃ u, G = .inr (u, k + 1) ∧ St u s'.1) ∨ ∃ b, G = .inl b ∧ Fl s'.1 e (bg tx e b))) ∨ ∃ r : Mm × Int32, x = .inr r ∧ (W M r.1 ∧ match (generalizing := false) G with | .inl b => Fl r.1 e (bg tx e b) | .inr (s2, c) => r.1.1 109 12 = -1 ∧ St s2 r.1 ∧ r.2 = nI c)) := fun K b h1 h2 h3 h4 => by
          obtain ⟨d, d1, d2⟩ := skipF h4 h2
          unfold f_X10_read_J23_80
          rw [d2, Option.bind_some, if_neg (h4.at d1).ne, l_1, nI_add]
          exact Tr.some (Or.inl ⟨(sAt K d, 0), rfl, hWt _ _ _ h1 (WA _ _), h2.at, Or.inr (Or.inr ⟨b, h3, h4.at d1⟩)⟩)
        by_cases cL : k = Lm
        · rw [if_pos (by rw [cL]), gA11, wrongR fA, Option.bind_some]
          rw [cL, Nat.sub_self] at p5
          refine badJ _ i (hWt _ _ _ wA (hWs _ 12 _ (Or.inr rfl))) (xA.sI9 (by decide) (by decide)) p5.symm ⟨hbi i, he, by rw [sI_at, if_pos ⟨rfl, rfl⟩], bg tx e i, by have := hbi i; omega, ?_⟩
          rw [sI_at, if_neg (by omega)]
          exact gA11
        · rw [if_neg (by rw [nI_eq (by omega) (by omega)]; exact cL)]
          obtain ⟨K, k1, k2, k3⟩ := hl A u i xA fA sa sA
          rw [k1, Option.bind_some]
          have wK : W M K := hWt _ _ _ wA k2
          have xK : TxR K tx e := hWx _ _ xA k2
          rw [show Lm - k = (Lm - (k + 1)) + 1 by omega, gF_succ] at p5
          cases hln : ln u i with
          | inl b =>
            rw [hln] at k3 p5
            exact badJ K b wK xK p5.symm k3
          | inr o =>
            obtain ⟨u2, j⟩ := o
            rw [hln] at k3 p5
            obtain ⟨k3, k4, k5⟩ : K.1 109 12 = -1 ∧ St u2 K ∧ AtR K tx e j := k3
            have p5 : (if wdT tx e j = 330 then Sum.inr (u2, k + 1) else if wdT tx e j = 322 then gF tx e ln (Lm - (k + 1)) (k + 1) u2 (j + 1) else .inl j) = G := p5
            obtain ⟨sl2, sa2⟩ := placeT xK k5
            unfold f_X10_read_J23_80
            rw [sl2, Option.bind_some]
            have xB : TxR (sAt K (bg tx e j)) tx e := xK.at
            have fB : (sAt K (bg tx e j)).1 109 12 = -1 := (sAt_ne (by decide)).trans k3
            have gB11 : gI (sAt K (bg tx e j)) 109 11 = nI (bg tx e j) := at_sAt
            have gB10 : gI (sAt K (bg tx e j)) 109 10 = nI e := (sAt_ne (by decide)).trans xK.2.1
            have wB : W M (sAt K (bg tx e j)) := hWt _ _ _ wK (WA _ _)
            have sB : St u2 (sAt K (bg tx e j)) := hSt _ _ _ k4
            generalize hBB : sAt K (bg tx e j) = B1 at sa2 xB fB gB11 gB10 wB sB
            rw [show gI B1 109 12 = -1 from fB, if_pos rfl, gB11, gB10, l_1, nI_add]
            have hbj := hbi j
            by_cases c1 : wdT tx e j = 330
            · rw [if_pos c1] at p5
              rw [if_pos (by rw [(wd330 he).mp c1])]
              exact Tr.some (Or.inl ⟨(B1, 0), rfl, wB, xB, Or.inr (Or.inl ⟨rfl, fB, u2, p5.symm, sB⟩)⟩)
            · rw [if_neg c1] at p5
              rw [if_neg (by rw [nI_eq (by omega) (by omega)]; exact fun e2 => c1 ((wd330 he).mpr e2))]
              obtain ⟨t1, t2, t3⟩ := signT xB sa2 (j := 22) (by decide) (by decide) s_59
              rw [t1, Option.bind_some]
              have hBs : sAt B1 (bg tx e j) = B1 := by rw [← hBB, sAt_sAt]
              rw [hBs] at t2 ⊢
              by_cases c2 : wdT tx e j = 322
              · rw [if_pos c2] at p5
                obtain ⟨t4, t5⟩ := t3 c2
                rw [decide_eq_true (show wdT tx e j = 300 + 22 from c2), if_pos rfl, gB11, Option.bind_some]
                have hat : sI B1 109 11 (nI (bg tx e j) + nI 1) = sAt B1 (bg tx e j + 1) := by unfold sAt; rw [nI_add]
                rw [hat]
                exact Tr.some (Or.inl ⟨(sAt B1 (bg tx e j + 1), 1), rfl, hWt _ _ _ wB (WA _ _), xB.at, Or.inl ⟨by omega, rfl, (sAt_ne (by decide)).trans fB, u2, j + 1, t5, hSt _ _ _ sB, p5⟩⟩)
              · rw [if_neg c2] at p5
                rw [decide_eq_false (show ¬ wdT tx e j = 300 + 22 from c2), if_neg (show ¬ false = true by decide), gB11, wrongR fB, Option.bind_some]
                refine Tr.some (Or.inl ⟨(sI B1 109 12 (nI (bg tx e j)), 1), rfl, hWt _ _ _ wB (hWs _ 12 _ (Or.inr rfl)), xB.sI9 (by decide) (by decide), Or.inr (Or.inr ⟨j, p5.symm, hbj, he, by rw [sI_at, if_pos ⟨rfl, rfl⟩], bg tx e j, by omega, ?_⟩)⟩)
                rw [sI_at, if_neg (by omega)]
                exact gB11
      · have p1 : go = 0 := p1
        rw [if_pos p1]
        refine Tr.some (Or.inr ⟨_, rfl, wN, ?_⟩)
        rw [p3]
        exact ⟨p2, p4, rfl⟩
      · have p2 : Fl N e (bg tx e b) := p2
        have : (if go = 0 then some (Sum.inr (N, nI k)) else if gI N 109 12 = -1 then (f_X10_skip N).bind (fun M2 => if nI k = nI Lm then (some (f_X10_wrong M2 (gI M2 109 11))).bind (fun M10 => f_X10_read_J23_80 M10 v1 go (nI k)) else (LF M2).bind (fun M3 => f_X10_read_J23_80 M3 v1 go (nI k))) else some (Sum.inr (N, nI k))) = some (Sum.inr (N, nI k)) := by
          by_cases g0 : go = 0
          · rw [if_pos g0]
          · rw [if_neg g0, if_neg p2.ne]
        rw [this]
        refine Tr.some (Or.inr ⟨_, rfl, wN, ?_⟩)
        rw [p1]
        exact p2
    · obtain ⟨N, go⟩ := s
      obtain ⟨wN, xN, hP⟩ := hP
      have wN : W M N := wN
      show Tr (f_X10_read_L23 N v1 go (nI (Lm + 1))) _
      rw [hv]
      rcases hP with ⟨p0, p1, p2, u, i, p3, p4, p5⟩ | ⟨p1, p2, u, p3, p4⟩ | ⟨b, p1, p2⟩
      · omega
      · have p1 : go = 0 := p1
        rw [if_pos p1]
        refine Tr.some ⟨_, rfl, wN, ?_⟩
        rw [p3]
        exact ⟨p2, p4, rfl⟩
      · have p2 : Fl N e (bg tx e b) := p2
        have : (if go = 0 then some (Sum.inr (N, nI (Lm + 1))) else if gI N 109 12 = -1 then (f_X10_skip N).bind (fun M2 => if nI (Lm + 1) = nI Lm then (some (f_X10_wrong M2 (gI M2 109 11))).bind (fun M10 => f_X10_read_J23_80 M10 v1 go (nI (Lm + 1))) else (LF M2).bind (fun M3 => f_X10_read_J23_80 M3 v1 go (nI (Lm + 1)))) else some (Sum.inr (N, nI (Lm + 1)))) = some (Sum.inr (N, nI (Lm + 1))) := by
          by_cases g0 : go = 0
          · rw [if_pos g0]
          · rw [if_neg g0, if_neg p2.ne]
        rw [this]
        refine Tr.some ⟨_, rfl, wN, ?_⟩
        rw [p1]
        exact p2
theorem L23h (M : Mm) (v2 v3 : Int32) : f_X10_read_L23 M 0 v2 v3 = if v2 = 0 then some (.inr (M, v3)) else if gI M 109 12 = -1 then (f_X10_skip M).bind (fun M2 => if v3 = nI 14 then (some (f_X10_wrong M2 (gI M2 109 11))).bind (fun M10 => f_X10_read_J23_80 M10 0 v2 v3) else (f_X10_hallLine M2).bind (fun M3 => f_X10_read_J23_80 M3 0 v2 v3)) else some (.inr (M, v3)) := rfl
theorem L23l (M : Mm) (v2 v3 : Int32) : f_X10_read_L23 M 1 v2 v3 = if v2 = 0 then some (.inr (M, v3)) else if gI M 109 12 = -1 then (f_X10_skip M).bind (fun M2 => if v3 = nI 12 then (some (f_X10_wrong M2 (gI M2 109 11))).bind (fun M10 => f_X10_read_J23_80 M10 1 v2 v3) else (f_X10_lawLine M2).bind (fun M3 => f_X10_read_J23_80 M3 1 v2 v3)) else some (.inr (M, v3)) := rfl
theorem gF_h : ∀ k c m i, hF tx e k m i = match gF tx e (hL tx e) k c m i with | .inl b => .inl b | .inr (m2, _) => .inr m2 := by
  intro k
  induction k with
  | zero => intro c m i; rfl
  | succ k ih =>
    intro c m i
    rw [hF_succ, gF_succ]
    cases hl : hL tx e m i with
    | inl b => rfl
    | inr o =>
      obtain ⟨m2, j⟩ := o
      show (if wdT tx e j = 330 then Sum.inr m2 else if wdT tx e j = 322 then hF tx e k m2 (j + 1) else .inl j) = match (if wdT tx e j = 330 then Sum.inr (m2, c + 1) else if wdT tx e j = 322 then gF tx e (hL tx e) k (c + 1) m2 (j + 1) else .inl j) with | .inl b => .inl b | .inr (m2, _) => .inr m2
      by_cases c1 : wdT tx e j = 330
      · rw [if_pos c1, if_pos c1]
      · rw [if_neg c1, if_neg c1]
        by_cases c2 : wdT tx e j = 322
        · rw [if_pos c2, if_pos c2]; exact ih (c + 1) m2 (j + 1)
        · rw [if_neg c2, if_neg c2]
theorem gR0_h : hR tx e m = match gR0 tx e (hL tx e) 14 m with | .inl b => .inl b | .inr (m2, _) => .inr m2 := by
  unfold hR gR0
  by_cases c : wdT tx e 0 = 330
  · rw [if_pos c, if_pos c]
  · rw [if_neg c, if_neg c]; exact gF_h 14 0 m 0
/-- the hall's text, whole: the reference -/
theorem readHR (hx : TxR M tx e) (hf : M.1 109 12 = -1) (ha : AtR M tx e 0) (hm : M.1 110 = m) (hI : Inv m B) : Tr (f_X10_read M 0) (fun r => FrH M r.2 ∧ match hR tx e m with | .inl b => Fl r.2 e (bg tx e b) | .inr m2 => r.2.1 109 12 = -1 ∧ r.2.1 110 = m2) := by
  have := readT (Lm := 14) (v1 := 0) (ln := hL tx e) (St := fun m N => N.1 110 = m ∧ Inv m B) (W := FrH) (LF := f_X10_hallLine) (by decide) (fun M => FrH.rf) (fun M N K h1 h2 => h1.tr h2) (fun M N h1 h2 => h1.frH h2) (fun M c x h => FrH.s9 (by omega)) (fun s N a h => ⟨(sAt_fn (by decide)).trans h.1, h.2⟩) L23h (fun N s i h1 h2 h3 h4 => by
    obtain ⟨K, k1, k2, k3⟩ := hallLR h1 h2 h3 h4.1 h4.2
    refine ⟨K, k1, k2, ?_⟩
    cases hl : hL tx e s i with
    | inl b => rw [hl] at k3; exact k3
    | inr o =>
      obtain ⟨m2, j⟩ := o
      rw [hl] at k3
      obtain ⟨k3, k4, k5⟩ : K.1 109 12 = -1 ∧ K.1 110 = m2 ∧ AtR K tx e j := k3
      exact ⟨k3, ⟨k4, hL_inv h1.tt h4.2 hl⟩, k5⟩) hx hf ha (s0 := m) ⟨hm, hI⟩
  obtain ⟨r, r1, r2, r3⟩ := this
  refine ⟨r, r1, r2, ?_⟩
  rw [gR0_h]
  cases hg : gR0 tx e (hL tx e) 14 m with
  | inl b => rw [hg] at r3; exact r3
  | inr o =>
    obtain ⟨m2, c⟩ := o
    rw [hg] at r3
    obtain ⟨r3, r4, r5⟩ : r.2.1 109 12 = -1 ∧ (r.2.1 110 = m2 ∧ Inv m2 B) ∧ r.1 = nI c := r3
    exact ⟨r3, r4.1⟩
end READ
